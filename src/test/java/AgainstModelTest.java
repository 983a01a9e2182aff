import java.util.Random;

/** Random runs of calls, each answer held against that of the plain model. */
public final class AgainstModelTest {
    private static final String[] LAWS = {
        "", "fix;", "loose;", "fix when lack=0;", "fix when common>0 and others<2;",
        "loose when lack>0;fix when more<3;", "fix when many>1;", "fix when not (more>2 or lack>1);",
        "fix when common*2>more+lack;", "fix when others=0 and common>1;", "fix when head<4 and lack<2;",
        "fix when common-lack>0; loose when many=1; fix when others*9999*9999>0;",
        "fix when common/2+more/3=1;", "fix when (head=0 and lack=0) or (head>2 and many=1);"};
    private static final String[] PIECES = {"fix", "loose", "when", "or", "and", "not", "common", "lack", "more",
        "many", "others", "head", ";", "+", "-", "*", "/", "(", ")", "<", "=", ">", "0", "1", "7", "9999", "12345",
        "Fix", "x", "$", "\t", "\n", " ", "00", "\u00e9"};

    /** An object answers so many calls. */
    private static final int CALLS = 512;
    /** No step of a run needs more calls than this. */
    private static final int STEP = 40;

    private final Random random;
    private final Check check = new Check();
    private NoWordTwice x;
    private Model y;
    private int calls;

    private AgainstModelTest(long seed) {
        random = new Random(seed);
    }

    public static void main(String[] args) {
        AgainstModelTest test = new AgainstModelTest(args.length > 0 ? Long.parseLong(args[0]) : 20261117L);
        int runs = args.length > 1 ? Integer.parseInt(args[1]) : 500;
        for (int run = 0; run < runs; run++) {
            test.check.promise("run " + run);
            test.run(run);
        }
        test.check.finish();
    }

    private void due(String call, long got, long want) {
        calls++;
        check.due(call, got, want);
    }

    private void due(String call, boolean got, boolean want) {
        due(call, got ? 1 : 0, want ? 1 : 0);
    }

    private int below(int n) {
        return random.nextInt(n);
    }

    private int near(int n) {
        int v = below(20);
        return v == 0 ? -1 : v == 1 ? n : v == 2 ? random.nextInt() : n == 0 ? 0 : below(n);
    }

    private void run(int run) {
        x = new NoWordTwice();
        y = new Model();
        calls = 0;
        int words = run % 10 == 0 ? 16 : 2 + below(6);
        int bits = 2 + below(9);
        for (int i = 0; i < words; i++) {
            int marks = 1 + below((1 << bits) - 1) & (below(2) == 0 ? -1 : below(1024) | 1);
            due("word", x.word(marks), y.word(marks));
        }
        tellLaw(LAWS[below(LAWS.length)]);
        for (int i = 0; i < 3 * words; i++) {
            addEntry();
        }
        while (calls < CALLS - STEP) {
            if (below(3) == 0) {
                tell();
            } else {
                ask();
            }
        }
        lookAround(CALLS - calls);
    }

    private void addEntry() {
        int n = y.n();
        int b = below(3) == 0 ? -1 : near(n);
        int c = below(2) == 0 ? -1 : near(n);
        int head = near(n);
        int a = near(n);
        due("entry", x.entry(head, a, b, c), y.entry(head, a, b, c));
    }

    private void tellLaw(String text) {
        for (int from = 0; from < text.length(); from += 20) {
            int[] f = Check.fives(text, from);
            due("feed", x.feed(f[0], f[1], f[2], f[3], f[4]), y.feed(f[0], f[1], f[2], f[3], f[4]));
        }
        due("end", x.end(text.length()), y.end(text.length()));
        due("text " + text, x.text(), y.text());
        due("fault 0 " + text, x.fault(0), y.fault(0));
        due("fault 1 " + text, x.fault(1), y.fault(1));
    }

    private String anyText() {
        StringBuilder s = new StringBuilder();
        if (below(3) == 0) {
            int pieces = below(20);
            for (int i = 0; i < pieces; i++) {
                s.append(PIECES[below(PIECES.length)]).append(below(3) == 0 ? "" : " ");
            }
            return s.toString();
        }
        int lines = below(8) == 0 ? 15 + below(4) : 1 + below(4);
        for (int i = 0; i < lines && s.length() < 280; i++) {
            s.append(below(2) == 0 ? "fix" : "loose");
            if (below(5) != 0) {
                s.append(" when ").append(condition(below(4) == 0 ? 10 : 3));
            }
            s.append(";");
        }
        if (below(4) == 0 && s.length() > 0) {
            int at = below(s.length());
            s.replace(at, at + 1, PIECES[below(PIECES.length)]);
        }
        if (s.length() > 400) {
            s.setLength(400);
        }
        return s.toString();
    }

    private String condition(int depth) {
        int kind = below(6);
        if (depth > 0 && kind == 0) {
            return "not " + condition(depth - 1);
        }
        if (depth > 0 && kind == 1) {
            return "(" + condition(depth - 1) + ")";
        }
        if (depth > 5) {
            return (kind % 2 == 0 ? "not " : "(") + condition(depth - 1) + (kind % 2 == 0 ? "" : ")");
        }
        if (depth > 0 && kind == 2) {
            return condition(depth - 1) + (below(2) == 0 ? " or " : " and ") + condition(depth - 1);
        }
        return sum() + "<=>".charAt(below(3)) + sum();
    }

    private String sum() {
        StringBuilder s = new StringBuilder(unit());
        for (int i = below(3); i > 0; i--) {
            int by = below(4);
            s.append("+-*/".charAt(by)).append(by == 3 ? String.valueOf(below(15)) : unit());
        }
        return s.toString();
    }

    private String unit() {
        return below(3) == 0 ? String.valueOf(below(6)) : PIECES[6 + below(6)];
    }

    private void tell() {
        int n = y.n();
        int e = near(y.w.entries.size());
        int f = near(y.w.entries.size());
        int v = near(n);
        switch (below(14)) {
            case 0: tellLaw(anyText()); break;
            case 1: tellLaw(LAWS[below(LAWS.length)]); break;
            case 2: addEntry(); break;
            case 3: due("drop", x.drop(e), y.drop(e)); break;
            case 4: due("move", x.move(e, f), y.move(e, f)); break;
            case 5: set(0, v, near(4)); break;
            case 6: set(1, v, below(2) == 0 ? near(1001) : 1000); break;
            case 7: set(2, v, near(2)); break;
            case 8: set(3, v, near(1024)); break;
            case 9: due("undo", x.undo(), y.undo()); break;
            case 10: image(below(2) == 0); break;
            case 11: state(random.nextInt()); break;
            default: editions(below(6) == 0 ? near(51) : 1 + below(3)); break;
        }
    }

    private void set(int what, int word, int v) {
        int w = below(30) == 0 ? near(5) : what;
        due("set", x.set(w, word, v), y.set(w, word, v));
    }

    private void image(boolean taken) {
        due("image", x.image(taken), y.image(taken));
        lookAround(12);
    }

    private void state(int v) {
        due("state", x.state(v), y.state(v));
    }

    private void editions(int n) {
        due("editions " + n, x.editions(n), y.editions(n));
        lookAround(12);
    }

    private void ask() {
        int n = y.n();
        int entries = y.w.entries.size();
        int set = below(15) == 0 ? random.nextInt() : below(1 << n);
        int e = near(entries);
        int v = near(n);
        int what = near(5);
        switch (below(14)) {
            case 0: due("of", x.of(v, what), y.of(v, what)); break;
            case 1: askAt(e, below(5) == 0 ? near(3) : 10 + near(3)); break;
            case 2: due("fixes", x.fixes(v, set), y.fixes(v, set)); break;
            case 3: due("judge", x.judge(what), y.judge(what)); break;
            case 4: due("learnt", x.learnt(set, what % 2), y.learnt(set, what % 2)); break;
            case 5: due("order", x.order(e), y.order(e)); break;
            case 6: due("ring", x.ring(), y.ring()); break;
            case 7: askFewest(); break;
            case 8: askWorn(e); break;
            case 9: due("judge 0", x.judge(0), y.judge(0)); break;
            case 10: askMost(); break;
            case 11: due("trade", x.trade(what), y.trade(what)); break;
            case 12: askBook(near(y.w.book.size()), near(4)); break;
            default: askLearnt(set, what); break;
        }
    }

    private void askAt(int e, int what) {
        due("at", x.at(e, what), y.at(e, what));
    }

    private void askFewest() {
        if (y.n() > 8 && below(10) != 0) {
            return;
        }
        due("cut", x.cut(), y.cut());
        due("least", x.least(), y.least());
    }

    private void askWorn(int e) {
        for (int i = -1; i < 4; i++) {
            due("worn " + e + " " + i, x.worn(e, i), y.worn(e, i));
        }
    }

    private void askMost() {
        int m = near(4);
        // The model is slow with many words, so it is asked less of them.
        int step = y.n() > 5 && y.n() < 8 ? 1 + below(y.n()) : 2;
        if (step != 2 && below(4) != 0) {
            return;
        }
        due("most 0", x.most(m, 0), y.most(m, 0));
        for (int h = below(2); h < y.n(); h += step) {
            due("most " + m + " 10+" + h, x.most(m, 10 + h), y.most(m, 10 + h));
        }
        int what = near(20);
        due("most what " + what, x.most(m, what), y.most(m, what));
    }

    private void askBook(int i, int what) {
        due("book", x.book(i, what), y.book(i, what));
    }

    private void askLearnt(int set, int what) {
        due("learnt what", x.learnt(set, what), y.learnt(set, what));
    }

    /** So many questions of what stands, by chance. */
    private void lookAround(int questions) {
        for (int i = 0; i < questions; i++) {
            int what = below(6);
            switch (below(4)) {
                case 0: askLook(below(11) - 1); break;
                case 1: askAt(near(y.w.entries.size()), what < 3 ? what : 7 + what); break;
                case 2: askBook(near(y.w.book.size()), below(4)); break;
                default: askOf(near(y.n()), below(5)); break;
            }
        }
    }

    private void askLook(int what) {
        due("look " + what, x.look(what), y.look(what));
    }

    private void askOf(int word, int what) {
        due("of " + word + " " + what, x.of(word, what), y.of(word, what));
    }
}
