import java.util.ArrayList;
import java.util.List;

/** Worlds that tests start from, and pictures of what stands in one. */
final class Worlds {
    private static final int NONE = -1;

    private Worlds() {
    }

    /** So many words, word i having the mark i modulo ten alone. */
    static NoWordTwice words(int n) {
        NoWordTwice x = new NoWordTwice();
        for (int i = 0; i < n; i++) {
            x.word(1 << i % 10);
        }
        return x;
    }

    static NoWordTwice wordsAndLaw(int n, String law) {
        NoWordTwice x = words(n);
        Check.law(x, law);
        return x;
    }

    /** A world in which everything stands that a call could spoil, with three editions that can be undone. */
    static NoWordTwice busy() {
        NoWordTwice x = wordsAndLaw(6, "loose when head=5; fix;");
        x.set(0, 0, 2);
        x.set(2, 1, 1);
        x.entry(0, 1, 2, 3);
        x.entry(4, 5, NONE, NONE);
        x.entry(5, 3, 0, NONE);
        x.state(12345);
        x.set(1, 0, 600);
        x.editions(3);
        return x;
    }

    /** Four entries, entry e telling word e, of which the first uses three words. */
    static NoWordTwice fourEntries() {
        NoWordTwice x = words(5);
        x.entry(0, 1, 2, 3);
        x.entry(1, 2, NONE, NONE);
        x.entry(2, 3, 4, NONE);
        x.entry(3, 4, NONE, NONE);
        return x;
    }

    /** Twelve entries told by one word each: entry e tells word e by the next one. */
    static NoWordTwice chain(String law) {
        NoWordTwice x = wordsAndLaw(13, law);
        for (int e = 0; e < 12; e++) {
            x.entry(e, e + 1, NONE, NONE);
        }
        return x;
    }

    /**
     * What can be asked of a world, but its tape. Only the first lines of the book are asked, since an object answers
     * 512 calls and no more.
     */
    static int[] picture(NoWordTwice x) {
        List<Integer> all = new ArrayList<>();
        for (int what = 0; what < 9; what++) {
            all.add(x.look(what));
        }
        for (int w = 0; w < all.get(0); w++) {
            all.add(x.of(w, 0));
            all.add(x.of(w, 1));
        }
        for (int e = 0; e < all.get(1); e++) {
            for (int what : new int[] {0, 1, 2, 10, 11, 12}) {
                all.add(x.at(e, what));
            }
        }
        for (int i = 0; i < Math.min(all.get(5), 4) * 4; i++) {
            all.add(x.book(i / 4, i % 4));
        }
        all.add(x.fault(0));
        all.add(x.fault(1));
        return all.stream().mapToInt(v -> v).toArray();
    }
}
