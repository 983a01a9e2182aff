import java.util.ArrayList;
import java.util.List;
import java.util.function.ToIntFunction;

/** The bounds of editions, their book, their undoing, the image, and look (promises 12 and 25 to 28). */
public final class EditionsBoundsTest extends BoundsCase {
    public static void main(String[] args) {
        EditionsBoundsTest test = new EditionsBoundsTest();
        test.draw();
        test.drawWithoutSign();
        test.oneToFifty();
        test.editionsThatCannotBe();
        test.editionAbove9999();
        test.howManyWereChanged();
        test.noDrawWithoutChange();
        test.belowChange();
        test.placeByADraw();
        test.wordByADraw();
        test.notItsHeadNorUsed();
        test.entryByEntry();
        test.thenEditionIsOneMore();
        test.lineOfTheBook();
        test.eightyLines();
        test.bookOfNone();
        test.undo();
        test.undoOfNothing();
        test.sixAreKept();
        test.undoGoesBackWithTheBook();
        test.undoFromTheLastEdition();
        test.whatForgets();
        test.whatForgetsNothing();
        test.refusedForgetsNothing();
        test.imageIsTaken();
        test.imageOfNone();
        test.imageLeavesOut();
        test.imageMoreThanOnce();
        test.imageFromWhichAllGoesOn();
        test.look();
        test.lookAtAnotherWhat();
        test.finish();
    }

    /** Head 0, told by word 1, among so many words, and a draw of 1000 that is always below CHANGE. */
    private static NoWordTwice oneEntry(int words, int change) {
        NoWordTwice x = Worlds.words(words);
        x.entry(0, 1, NONE, NONE);
        x.set(1, 0, change);
        return x;
    }

    /** Twelve entries of one to three words each, of sixteen. */
    private static NoWordTwice fullDictionary() {
        NoWordTwice x = Worlds.words(16);
        for (int e = 0; e < 12; e++) {
            x.entry(e, e + 1, e % 3 > 0 ? e + 2 : NONE, e % 3 > 1 ? e + 3 : NONE);
        }
        x.set(1, 0, 1000);
        return x;
    }

    private void draw() {
        sentence(12, "a DRAW of m: it becomes 1664525 times itself + 1013904223 (ints, which wrap)");
        int[][] states = {{0, 1013904223}, {1, 1015568748}, {-1, 1012239698}, {MAX, -1135243950}, {MIN, -1133579425}};
        for (int[] s : states) {
            NoWordTwice x = oneEntry(2, 1);
            x.state(s[0]);
            due("editions(1) from " + s[0], x.editions(1), 0);
            due("look(6)", x.look(6), s[1]);
        }
        sentence(12, "Quotients go downwards.");
        // 1013904223 / 256 is 3960563.4; its last three digits are the draw of 1000.
        due("CHANGE 563 from 0: one draw", behindOne(0, 563), 1013904223);
        due("CHANGE 564 from 0: three draws", behindOne(0, 564) == 1013904223, false);
    }

    private static int behindOne(int state, int change) {
        NoWordTwice x = oneEntry(2, change);
        x.state(state);
        x.editions(1);
        return x.look(6);
    }

    private void drawWithoutSign() {
        sentence(12, "then it is its highest 24 bits (without sign) modulo m.");
        // From MIN the state becomes -1133579425: without sign 3161387871, of which 12349171 are the highest 24 bits.
        due("CHANGE 171: one draw", behindOne(MIN, 171), -1133579425);
        due("CHANGE 172: three draws", behindOne(MIN, 172) == -1133579425, false);
        for (int bits = 0; bits < 4; bits++) {
            int which = bits;
            int state = Draws.stateWhere(d -> {
                d.next(1000);
                d.next(1);
                int word = d.next(16);
                return word > 1 && (d.state() >>> 30) == which;
            });
            Draws d = new Draws(state);
            d.next(1000);
            d.next(1);
            int word = d.next(16);
            NoWordTwice x = oneEntry(16, 1000);
            x.state(state);
            due("editions(1), highest bits " + bits, x.editions(1), 1);
            due("at(0, 10), highest bits " + bits, x.at(0, 10), word);
            due("look(6), highest bits " + bits, x.look(6), d.state());
        }
    }

    private void oneToFifty() {
        sentence(12, "EDITIONS (1 .. 50)");
        for (int n : new int[] {1, 2, 49, 50}) {
            NoWordTwice x = new NoWordTwice();
            due("editions(" + n + ")", x.editions(n), 0);
            due("look(4)", x.look(4), n);
        }
        NoWordTwice once = fullDictionary();
        NoWordTwice singly = fullDictionary();
        int changed = 0;
        for (int i = 0; i < 50; i++) {
            changed += singly.editions(1);
        }
        due("editions(50) is fifty times editions(1)", once.editions(50), changed);
        int[] picture = Worlds.picture(singly);
        same("editions(50) is fifty times editions(1)", Worlds.picture(once), picture);
    }

    private void editionsThatCannotBe() {
        sentence(12, "NONE, and nothing is done, if one can't be");
        for (int n : new int[] {0, -1, -50, 51, 52, 100, MIN, MIN + 1, MAX}) {
            leaves("editions(" + n + ")", NONE, x -> x.editions(n));
        }
    }

    private void editionAbove9999() {
        sentence(12, "or EDITION would be above 9999.");
        for (int n : new int[] {50, 51, MAX}) {
            leaves("editions(" + n + ") behind 9950", lateEditions(9950), NONE, y -> y.editions(n));
        }
        NoWordTwice x = lateEditions(9950);
        due("editions(49) behind 9950", x.editions(49) != NONE, true);
        due("look(4)", x.look(4), 9999);
        leaves("editions(1) behind 9999", x, NONE, y -> y.editions(1));
        leaves("editions(50) behind 9999", x, NONE, y -> y.editions(50));
        sentence(12, "EDITION 0 .. 9999 (0 at first)");
        due("look(4) at first", new NoWordTwice().look(4), 0);
        NoWordTwice y = lateEditions(9999);
        due("look(4)", y.look(4), 9999);
        due("undo()", y.undo(), true);
        due("editions(2) behind 9998", y.editions(2), NONE);
        due("editions(1) behind 9998", y.editions(1) != NONE, true);
    }

    /** A dictionary of which so many editions are out, in some two hundred calls. */
    private static NoWordTwice lateEditions(int editions) {
        NoWordTwice x = oneEntry(4, 1000);
        for (int left = editions; left > 0; left -= 50) {
            x.editions(Math.min(left, 50));
        }
        return x;
    }

    private void howManyWereChanged() {
        sentence(12, "how many WORDS were changed.");
        due("without entries", Worlds.words(16).editions(50), 0);
        NoWordTwice none = Worlds.words(16);
        none.set(1, 0, 1000);
        due("without entries, CHANGE 1000", none.editions(50), 0);
        due("no draw without entries", none.look(6), 0);
        due("two words: there is no other one", oneEntry(2, 1000).editions(50), 0);
        NoWordTwice x = fullDictionary();
        List<int[]> changes = changes(x, 0, 50);
        due("editions(50) of twelve entries", x.editions(50), changes.size());
        due("more than the book has lines", changes.size() > 80, true);
    }

    /** What so many editions will change: edition, entry, the word that was, the word that is. */
    private static List<int[]> changes(NoWordTwice x, int state, int editions) {
        Draws draws = new Draws(state);
        int entries = x.look(1);
        int[][] used = new int[entries][];
        int[] heads = new int[entries];
        for (int e = 0; e < entries; e++) {
            heads[e] = x.at(e, 0);
            used[e] = new int[x.at(e, 1)];
            for (int i = 0; i < used[e].length; i++) {
                used[e][i] = x.at(e, 10 + i);
            }
        }
        int first = x.look(4);
        int words = x.look(0);
        List<int[]> changes = new ArrayList<>();
        for (int n = 0; n < editions; n++) {
            for (int e = 0; e < entries; e++) {
                draws.next(1000);
                int place = draws.next(used[e].length);
                int word = draws.next(words);
                boolean free = word != heads[e];
                for (int u : used[e]) {
                    free &= u != word;
                }
                if (free) {
                    changes.add(new int[] {first + n, e, used[e][place], word});
                    used[e][place] = word;
                }
            }
        }
        return changes;
    }

    private void noDrawWithoutChange() {
        sentence(12, "An EDITION: for ENTRY by ENTRY, if CHANGE is above 0, a DRAW of 1000");
        NoWordTwice x = fullDictionary();
        x.set(1, 0, 0);
        x.state(77);
        due("CHANGE 0: editions(50)", x.editions(50), 0);
        due("CHANGE 0: no draw", x.look(6), 77);
        due("CHANGE 0: the edition is out", x.look(4), 50);
        due("CHANGE 0: no line", x.look(5), 0);
        int state = Draws.stateWhere(d -> {
            boolean above = true;
            for (int i = 0; i < 12; i++) {
                above &= d.next(1000) >= 1;
            }
            return above;
        });
        x.set(1, 0, 1);
        x.state(state);
        due("CHANGE 1, no draw is 0: editions(1)", x.editions(1), 0);
        Draws twelve = new Draws(state);
        for (int i = 0; i < 12; i++) {
            twelve.next(1000);
        }
        due("CHANGE 1: a draw for each entry", x.look(6), twelve.state());
    }

    private void belowChange() {
        sentence(12, "below CHANGE one of its USED WORDS");
        for (int drawn : new int[] {0, 1, 499, 998, 999}) {
            int state = Draws.stateWhere(d -> d.next(1000) == drawn && d.next(1) == 0 && d.next(16) > 1);
            NoWordTwice at = oneEntry(16, drawn);
            at.state(state);
            due("a draw of " + drawn + " is not below it", at.editions(1), 0);
            due("at(0, 10)", at.at(0, 10), 1);
            NoWordTwice above = oneEntry(16, drawn + 1);
            above.state(state);
            due("a draw of " + drawn + " is below " + (drawn + 1), above.editions(1), 1);
            due("at(0, 10) is another", above.at(0, 10) > 1, true);
        }
    }

    private void placeByADraw() {
        sentence(12, "told by a DRAW of how many they are");
        for (int count = 1; count <= 3; count++) {
            for (int place = 0; place < count; place++) {
                int many = count;
                int wanted = place;
                int state = Draws.stateWhere(d -> d.next(1000) >= 0 && d.next(many) == wanted && d.next(16) > 3);
                NoWordTwice x = Worlds.words(16);
                x.entry(0, 1, count > 1 ? 2 : NONE, count > 2 ? 3 : NONE);
                x.set(1, 0, 1000);
                x.state(state);
                due("editions(1)", x.editions(1), 1);
                for (int i = 0; i < 3; i++) {
                    String call = "place " + place + " of " + count + ": at(0, " + (10 + i) + ")";
                    int stays = i < count ? i + 1 : NONE;
                    due(call, i == place ? x.at(0, 10 + i) > 3 : x.at(0, 10 + i) == stays, true);
                }
                due("as many as before", x.at(0, 1), count);
            }
        }
    }

    private void wordByADraw() {
        sentence(12, "becomes the WORD told by a DRAW of how many WORDS there are");
        for (int words = 3; words <= 16; words++) {
            int all = words;
            int state = Draws.stateWhere(d -> d.next(1000) >= 0 && d.next(1) == 0 && d.next(all) == all - 1);
            NoWordTwice x = oneEntry(words, 1000);
            x.state(state);
            due("editions(1) with " + words + " words", x.editions(1), 1);
            due("the last of " + words, x.at(0, 10), words - 1);
        }
        int first = Draws.stateWhere(d -> d.next(1000) >= 0 && d.next(1) == 0 && d.next(16) == 0);
        NoWordTwice x = Worlds.words(16);
        x.entry(15, 14, NONE, NONE);
        x.set(1, 0, 1000);
        x.state(first);
        due("editions(1)", x.editions(1), 1);
        due("the first of 16", x.at(0, 10), 0);
    }

    private void notItsHeadNorUsed() {
        sentence(12, "if that is not its HEAD and not USED by it");
        for (int word = 0; word < 5; word++) {
            for (int place = 0; place < 3; place++) {
                int wordDrawn = word;
                int placeDrawn = place;
                int state = Draws.stateWhere(
                        d -> d.next(1000) >= 0 && d.next(3) == placeDrawn && d.next(5) == wordDrawn);
                Draws three = new Draws(state);
                three.next(1000);
                three.next(3);
                three.next(5);
                NoWordTwice x = Worlds.words(5);
                x.entry(0, 1, 2, 3);
                x.set(1, 0, 1000);
                x.state(state);
                String call = "word " + word + " for place " + place;
                due(call, x.editions(1), word == 4 ? 1 : 0);
                due(call + ": lines", x.look(5), word == 4 ? 1 : 0);
                for (int i = 0; i < 3; i++) {
                    due(call + ": at(0, " + (10 + i) + ")", x.at(0, 10 + i), word == 4 && i == place ? 4 : i + 1);
                }
                due(call + ": the draws are drawn all the same", x.look(6), three.state());
                due(call + ": the edition is out", x.look(4), 1);
            }
        }
    }

    private void entryByEntry() {
        sentence(12, "An EDITION: for ENTRY by ENTRY");
        NoWordTwice x = fullDictionary();
        int[] used = new int[36];
        for (int i = 0; i < 36; i++) {
            used[i] = x.at(i / 3, 10 + i % 3);
        }
        List<int[]> changes = changes(x, -12345, 3);
        for (int[] c : changes) {
            for (int i = 0; i < 3; i++) {
                if (used[c[1] * 3 + i] == c[2]) {
                    used[c[1] * 3 + i] = c[3];
                }
            }
        }
        x.state(-12345);
        due("editions(3)", x.editions(3), changes.size());
        for (int i = 0; i < 36; i++) {
            due("at(" + i / 3 + ", 10 + " + i % 3 + ")", x.at(i / 3, 10 + i % 3), used[i]);
        }
    }

    private void thenEditionIsOneMore() {
        sentence(12, "Then EDITION is one more.");
        NoWordTwice x = new NoWordTwice();
        for (int i = 1; i <= 5; i++) {
            x.editions(1);
            due("look(4) without words", x.look(4), i);
        }
        x.editions(50);
        due("look(4)", x.look(4), 55);
    }

    private void lineOfTheBook() {
        sentence(25, "Of line i of THE BOOK what 0 EDITION, 1 ENTRY, 2 the WORD that was, 3 that is.");
        NoWordTwice x = fullDictionary();
        x.set(1, 0, 0);
        x.editions(7);
        x.set(1, 0, 1000);
        List<int[]> changes = changes(x, 0, 5);
        x.editions(5);
        due("look(5)", x.look(5), changes.size());
        for (int i = 0; i < changes.size(); i++) {
            for (int what = 0; what < 4; what++) {
                due("book(" + i + ", " + what + ")", x.book(i, what), changes.get(i)[what]);
            }
        }
        due("the first line is of the edition that came out then", x.book(0, 0), 7);
    }

    private void eightyLines() {
        sentence(25, "THE BOOK (80 lines; no more then): EDITION, ENTRY, the WORD that was, the WORD that is.");
        NoWordTwice x = fullDictionary();
        List<int[]> changes = changes(x, 0, 50);
        x.editions(50);
        due("look(5)", x.look(5), 80);
        for (int i = 0; i < 80; i++) {
            for (int what = 0; what < 4; what++) {
                due("book(" + i + ", " + what + ")", x.book(i, what), changes.get(i)[what]);
            }
        }
        due("book(80, 0)", x.book(80, 0), NONE);
        NoWordTwice y = oneEntry(16, 1000);
        int lines = 0;
        for (int i = 0; i < 120; i++) {
            lines += y.editions(1);
            due("one by one, look(5)", y.look(5), Math.min(lines, 80));
        }
        due("there were more", lines > 82, true);
    }

    private void bookOfNone() {
        sentence(25, "NONE if there is none such, or another what.");
        NoWordTwice x = oneEntry(16, 1000);
        leaves("book(0, 0) of an empty one", x, NONE, y -> y.book(0, 0));
        for (int what : new int[] {-1, 4, 5, MIN, MAX}) {
            NoWordTwice busy = Worlds.busy();
            due("there is a line", busy.look(5) > 0, true);
            leaves("book(0, " + what + ")", busy, NONE, y -> y.book(0, what));
        }
        NoWordTwice busy = Worlds.busy();
        int lines = busy.look(5);
        due("the last line", busy.book(lines - 1, 0) != NONE, true);
        for (int i : new int[] {lines, lines + 1, 80, MAX, -1, MIN, MIN / 4 + 1, MAX / 4 + 1}) {
            for (int what = 0; what < 4; what++) {
                due("book(" + i + ", " + what + ")", busy.book(i, what), NONE);
            }
        }
    }

    private void undo() {
        sentence(26, "UNDO: true");
        NoWordTwice x = Worlds.busy();
        x.state(4242);
        int[] before = Worlds.picture(x);
        x.editions(1);
        due("undo()", x.undo(), true);
        same("undo()", Worlds.picture(x), before);
        sentence(26, "UNDO: the latest EDITION not undone yet goes back (STATE, too)");
        NoWordTwice y = fullDictionary();
        int[][] seen = new int[3][];
        for (int i = 0; i < 3; i++) {
            seen[i] = rows(y);
            y.editions(1);
        }
        for (int i = 2; i >= 0; i--) {
            due("undo() of edition " + i, y.undo(), true);
            same("undo() of edition " + i, rows(y), seen[i]);
        }
        NoWordTwice z = fullDictionary();
        z.editions(3);
        z.undo();
        due("of three at once the last alone: look(4)", z.look(4), 2);
        same("of three at once the last alone", rows(z), behindTwo());
        z.editions(1);
        z.undo();
        same("one that came behind an undone one", rows(z), behindTwo());
        z.undo();
        due("then the one ahead: look(4)", z.look(4), 1);
    }

    private static int[] behindTwo() {
        NoWordTwice x = fullDictionary();
        x.editions(2);
        return rows(x);
    }

    /** The used words of twelve entries, and what an edition changes beside them. */
    private static int[] rows(NoWordTwice x) {
        int[] all = new int[39];
        for (int i = 0; i < 36; i++) {
            all[i] = x.at(i / 3, 10 + i % 3);
        }
        all[36] = x.look(4);
        all[37] = x.look(5);
        all[38] = x.look(6);
        return all;
    }

    private void undoOfNothing() {
        sentence(26, "false if there is nothing.");
        leaves("undo() of a new object", new NoWordTwice(), 0, x -> number(x.undo()));
        NoWordTwice x = Worlds.busy();
        for (int i = 0; i < 3; i++) {
            due("undo() " + i, x.undo(), true);
        }
        leaves("a fourth of three", x, 0, y -> number(y.undo()));
        due("the change of the settings is not undone", x.look(3), 600);
        due("the first edition has come back", x.look(4), 0);
        NoWordTwice empty = new NoWordTwice();
        empty.editions(1);
        due("an edition of nothing goes back, too", empty.undo(), true);
        due("look(4)", empty.look(4), 0);
        due("once", empty.undo(), false);
    }

    private void sixAreKept() {
        sentence(26, "6 are kept");
        for (int n : new int[] {5, 6, 7, 8, 13, 50}) {
            NoWordTwice once = fullDictionary();
            NoWordTwice singly = fullDictionary();
            once.editions(n);
            for (int i = 0; i < n; i++) {
                singly.editions(1);
            }
            int kept = Math.min(n, 6);
            due("look(8) behind editions(" + n + ")", once.look(8), kept);
            due("look(8) behind " + n + " times editions(1)", singly.look(8), kept);
            for (int i = 1; i <= kept; i++) {
                due("undo() " + i + " of " + n, once.undo(), true);
                due("undo() " + i + " of " + n + ", singly", singly.undo(), true);
                due("look(8)", once.look(8), kept - i);
            }
            leaves("undo() of one more", once, 0, x -> number(x.undo()));
            due("undo() of one more, singly", singly.undo(), false);
            due("look(4)", once.look(4), n - kept);
            NoWordTwice ahead = fullDictionary();
            if (n > kept) {
                ahead.editions(n - kept);
            }
            int[] rows = rows(ahead);
            same("back " + kept + " of " + n, rows(once), rows);
            same("back " + kept + " of " + n + ", singly", rows(singly), rows);
        }
        NoWordTwice x = fullDictionary();
        x.editions(6);
        x.undo();
        x.undo();
        x.editions(3);
        due("4 are left, 3 come: look(8)", x.look(8), 6);
        for (int i = 0; i < 6; i++) {
            due("undo()", x.undo(), true);
        }
        due("undo() of a seventh", x.undo(), false);
        NoWordTwice first = fullDictionary();
        first.editions(1);
        same("back to the first", rows(x), rows(first));
    }

    private void undoGoesBackWithTheBook() {
        sentence(26, "UNDO: the latest EDITION not undone yet goes back");
        NoWordTwice x = fullDictionary();
        // Some ten lines an edition: the eighth fills the book, the next ones write nothing.
        x.editions(6);
        int ahead = x.look(5);
        due("not full yet", ahead < 80, true);
        x.editions(6);
        due("full", x.look(5), 80);
        for (int i = 0; i < 6; i++) {
            x.undo();
        }
        due("look(5) as ahead of them", x.look(5), ahead);
        due("the first line that went", x.book(ahead, 0), NONE);
        due("the last line that stays", x.book(ahead - 1, 0), 5);
        x.set(1, 0, 0);
        x.editions(1);
        x.set(1, 0, 1000);
        x.editions(1);
        due("a line that comes behind them", x.book(ahead, 0), 7);
        NoWordTwice full = fullDictionary();
        full.editions(50);
        full.undo();
        due("a full book stays full", full.look(5), 80);
    }

    private void undoFromTheLastEdition() {
        sentence(26, "6 are kept");
        NoWordTwice x = lateEditions(9999);
        x.editions(1);
        due("look(8) behind a refused one", x.look(8), 6);
        for (int i = 1; i <= 6; i++) {
            due("undo()", x.undo(), true);
            due("look(4)", x.look(4), 9999 - i);
        }
        due("undo() of a seventh", x.undo(), false);
    }

    private void whatForgets() {
        sentence(26, "whatever else is told but texts");
        forgets("state(1)", x -> x.state(1));
        forgets("state as it is", x -> x.state(x.look(6)));
        forgets("word(1)", x -> x.word(1));
        forgets("set(0, 0, 3)", x -> number(x.set(0, 0, 3)));
        forgets("set(0, 0, 2), as it is", x -> number(x.set(0, 0, 2)));
        forgets("set(1, 0, 5)", x -> number(x.set(1, 0, 5)));
        forgets("set(1, 0, 600), as it is", x -> number(x.set(1, 0, 600)));
        forgets("set(2, 0, 1)", x -> number(x.set(2, 0, 1)));
        forgets("set(2, 1, 1), as it is", x -> number(x.set(2, 1, 1)));
        forgets("set(3, 0, 7)", x -> number(x.set(3, 0, 7)));
        forgets("set(3, 0, 1), as it is", x -> number(x.set(3, 0, 1)));
        forgets("entry(0, 1, NONE, NONE)", x -> x.entry(0, 1, NONE, NONE));
        forgets("drop(0)", x -> number(x.drop(0)));
        forgets("drop(2)", x -> number(x.drop(2)));
        forgets("move(0, 1)", x -> number(x.move(0, 1)));
        forgets("move(1, 1)", x -> number(x.move(1, 1)));
    }

    private void keeps(String call, ToIntFunction<NoWordTwice> told) {
        NoWordTwice x = Worlds.busy();
        told.applyAsInt(x);
        due("look(8) behind " + call, x.look(8), 3);
        due("undo() behind " + call, x.undo(), true);
        due("look(4) behind " + call, x.look(4), 2);
    }

    private void whatForgetsNothing() {
        sentence(26, "whatever else is told but texts (the taking of THE IMAGE does not) forgets them.");
        keeps("feed", x -> x.feed(1, 2, 3, 4, 5));
        keeps("end", x -> number(x.end(0)));
        keeps("text", x -> x.text());
        keeps("a law", x -> Check.law(x, "loose;"));
        keeps("a law with a fault", x -> Check.law(x, "loose"));
        keeps("the taking of the image", x -> number(x.image(true)));
        NoWordTwice x = Worlds.busy();
        Check.law(x, "loose;");
        x.undo();
        due("a text is not undone", x.look(7), 1);
        due("a text is not undone: fixes(0, 2)", x.fixes(0, 2), 0);
    }

    private void refusedForgetsNothing() {
        sentence(26, "whatever else is told but texts");
        keeps("word(0)", x -> x.word(0));
        keeps("set(0, 0, 0)", x -> number(x.set(0, 0, 0)));
        keeps("set(4, 0, 0)", x -> number(x.set(4, 0, 0)));
        keeps("entry(0, 0, 0, 0)", x -> x.entry(0, 0, 0, 0));
        keeps("drop(3)", x -> number(x.drop(3)));
        keeps("move(0, 3)", x -> number(x.move(0, 3)));
        keeps("editions(0)", x -> x.editions(0));
        keeps("image(false) of none", x -> number(x.image(false)));
        keeps("all that is asked", x -> x.cut() + x.least() + x.ring() + x.most(1, 0) + x.trade(0) + x.judge(0));
    }

    /** What differs from a busy world in all that an image holds. */
    private static void tellOtherwise(NoWordTwice x) {
        x.word(7);
        x.set(0, 0, 3);
        x.set(1, 0, 1000);
        x.set(2, 1, 0);
        x.set(2, 4, 1);
        x.set(3, 0, 1000);
        x.drop(0);
        x.move(0, 1);
        x.entry(6, 0, 1, 2);
        x.state(-9);
        x.editions(5);
        Check.law(x, "loose;loose;fix;");
    }

    private void imageIsTaken() {
        sentence(27, "THE IMAGE is taken (true), or gone back to (false): true");
        leaves("image(true)", 1, x -> number(x.image(true)));
        sentence(27, "as it was when it was taken");
        NoWordTwice x = Worlds.busy();
        int[] before = Worlds.picture(x);
        before[8] = 0;
        due("image(true)", x.image(true), true);
        tellOtherwise(x);
        due("image(false)", x.image(false), true);
        same("image(false)", Worlds.picture(x), before);
        NoWordTwice y = Worlds.busy();
        y.image(true);
        for (int i = 0; i < 3; i++) {
            y.undo();
        }
        y.image(false);
        same("behind undone editions", Worlds.picture(y), before);
        NoWordTwice z = Worlds.busy();
        int line = firstLine(z);
        z.image(true);
        for (int i = 0; i < 3; i++) {
            z.undo();
        }
        z.state(99);
        z.set(1, 0, 1000);
        z.editions(5);
        due("another line stands in the book", firstLine(z) != line, true);
        z.image(false);
        same("the lines of the book come back", Worlds.picture(z), before);
    }

    private static int firstLine(NoWordTwice x) {
        return x.book(0, 1) << 8 | x.book(0, 2) << 4 | x.book(0, 3);
    }

    private void imageOfNone() {
        sentence(27, "false if there is none.");
        leaves("image(false)", 0, x -> number(x.image(false)));
        leaves("image(false) of a new object", new NoWordTwice(), 0, x -> number(x.image(false)));
        NoWordTwice empty = new NoWordTwice();
        due("image(true) of a new object", empty.image(true), true);
        tellAll(empty);
        due("image(false)", empty.image(false), true);
        int[] bare = {0, 0, 1, 0, 0, 0, 0, 0, 0, 0, NONE};
        same("an image of nothing is one", Worlds.picture(empty), bare);
        empty.word(3);
        empty.word(5);
        due("a word that comes then is not known", empty.of(0, 1), 0);
        due("and is not used", empty.of(1, 2), 0);
    }

    private static void tellAll(NoWordTwice x) {
        for (int i = 0; i < 16; i++) {
            x.word(1 + i);
            x.set(2, i, 1);
        }
        for (int e = 0; e < 12; e++) {
            x.entry(e, e + 1, NONE, NONE);
        }
        x.set(0, 0, 3);
        x.set(1, 0, 1000);
        x.editions(50);
        Check.law(x, "fix;");
    }

    private void imageLeavesOut() {
        sentence(27, "THE IMAGE: all that is and was told but the TAPE, fault() and what can be undone (nothing then)");
        NoWordTwice x = Worlds.busy();
        x.feed(0x6669783b, 0x20202020, 0x20202020, 0x20202020, 0x20202020);
        x.image(true);
        x.end(4);
        x.image(false);
        due("the tape is as it stands: end(5)", x.end(5), false);
        due("the tape is as it stands: end(4)", x.end(4), true);
        due("the tape is as it stands: text()", x.text(), 1);
        Check.law(x, "fix when 1/0=1;");
        x.image(false);
        due("fault(0) is as it stands", x.fault(0), 2);
        due("fault(1) is as it stands", x.fault(1), 11);
        due("but the law goes back", x.look(7), 2);
        x.editions(4);
        x.image(true);
        due("taken: look(8)", x.look(8), 4);
        x.editions(1);
        x.image(false);
        due("gone back: look(8)", x.look(8), 0);
        due("gone back: undo()", x.undo(), false);
        x.editions(1);
        due("one edition behind it: look(8)", x.look(8), 1);
        due("one edition behind it: undo()", x.undo(), true);
        due("and no more", x.undo(), false);
    }

    private void imageMoreThanOnce() {
        sentence(27, "gone back to it may be more than once.");
        NoWordTwice x = Worlds.busy();
        int[] before = Worlds.picture(x);
        before[8] = 0;
        x.image(true);
        for (int i = 0; i < 3; i++) {
            tellOtherwise(x);
            due("image(false)", x.image(false), true);
        }
        same("the third time", Worlds.picture(x), before);
        due("image(false) at once again", x.image(false), true);
        same("at once again", Worlds.picture(x), before);
        tellOtherwise(x);
        int[] otherwise = Worlds.picture(x);
        otherwise[8] = 0;
        x.image(true);
        x.word(9);
        x.image(false);
        same("taken anew, the later one counts", Worlds.picture(x), otherwise);
    }

    private void imageFromWhichAllGoesOn() {
        sentence(27, "an image from which all goes on");
        NoWordTwice x = fullDictionary();
        x.editions(2);
        x.image(true);
        int changed = x.editions(4);
        int[] rows = rows(x);
        x.state(5);
        x.drop(4);
        x.image(false);
        due("the same editions again", x.editions(4), changed);
        same("the same editions again", rows(x), rows);
        for (int i = 0; i < 4; i++) {
            due("they can be undone", x.undo(), true);
        }
        same("back to the image", rows(x), behindTwo());
    }

    private void look() {
        sentence(28, "What 0 WORDS, 1 ENTRIES, 2 LIMIT, 3 CHANGE, 4 EDITION, 5 lines of THE BOOK, 6 STATE, "
                + "7 lines of THE LAW, 8 what can be undone.");
        NoWordTwice x = fullDictionary();
        x.set(0, 0, 3);
        Check.law(x, "fix;".repeat(16));
        x.state(MIN);
        x.editions(50);
        int[] most = {16, 12, 3, 1000, 50, 80, x.state(MIN), 16, 0};
        for (int what = 0; what < 9; what++) {
            due("look(" + what + ") at its most", x.look(what), what == 6 ? MIN : most[what]);
        }
        x.editions(50);
        due("look(8) at its most", x.look(8), 6);
        due("look(4)", x.look(4), 100);
        int[] first = {0, 0, 1, 0, 0, 0, 0, 0, 0};
        NoWordTwice bare = new NoWordTwice();
        for (int what = 0; what < 9; what++) {
            due("look(" + what + ") at first", bare.look(what), first[what]);
        }
        bare.word(1);
        bare.word(2);
        bare.entry(0, 1, NONE, NONE);
        bare.set(0, 0, 2);
        bare.set(1, 0, 4);
        bare.state(3);
        bare.text();
        due("look(0)", bare.look(0), 2);
        due("look(1)", bare.look(1), 1);
        due("look(2)", bare.look(2), 2);
        due("look(3)", bare.look(3), 4);
        due("look(6)", bare.look(6), 3);
        due("look(7)", bare.look(7), 0);
    }

    private void lookAtAnotherWhat() {
        sentence(28, "NONE for another what.");
        for (int what : new int[] {-1, 9, 10, 256, MIN, MAX}) {
            leaves("look(" + what + ")", NONE, x -> x.look(what));
        }
    }
}
