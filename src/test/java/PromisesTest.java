/** Each promise by itself: ordinary inputs, the edges that the document names, and wrong inputs. */
public final class PromisesTest {
    private static final int NONE = NoWordTwice.NONE;
    private static final int MAX = Integer.MAX_VALUE;
    private static final int MIN = Integer.MIN_VALUE;
    private static final Check CHECK = new Check();

    public static void main(String[] args) {
        newObject();
        state();
        word();
        set();
        entry();
        drop();
        move();
        feed();
        end();
        text();
        fault();
        editions();
        of();
        at();
        fixes();
        judge();
        learnt();
        order();
        ring();
        cut();
        least();
        most();
        worn();
        trade();
        book();
        undo();
        image();
        look();
        CHECK.finish();
    }

    private static void due(String call, long got, long want) {
        CHECK.due(call, got, want);
    }

    private static void due(String call, boolean got, boolean want) {
        CHECK.due(call, got, want);
    }

    private static void newObject() {
        CHECK.promise("promise 1");
        NoWordTwice x = new NoWordTwice();
        int[] looks = {0, 0, 1, 0, 0, 0, 0, 0, 0};
        for (int what = 0; what < looks.length; what++) {
            due("look(" + what + ")", x.look(what), looks[what]);
        }
        due("fault(0)", x.fault(0), 0);
        due("fault(1)", x.fault(1), NONE);
        due("of(0, 0)", x.of(0, 0), -2);
        due("at(0, 0)", x.at(0, 0), NONE);
        due("image(false)", x.image(false), false);
        due("undo()", x.undo(), false);
        due("learnt(0, 0)", x.learnt(0, 0), 0);
        due("learnt(1, 0)", x.learnt(1, 0), NONE);
        due("most(3, 0)", x.most(3, 0), 0);
        due("most(3, 10)", x.most(3, 10), NONE);
        due("NONE", NoWordTwice.NONE, -1);
        NoWordTwice other = new NoWordTwice();
        x.word(1);
        due("another object's words", other.look(0), 0);
    }

    private static void state() {
        CHECK.promise("promise 2");
        NoWordTwice x = new NoWordTwice();
        due("state(7)", x.state(7), 0);
        due("state(MIN)", x.state(MIN), 7);
        due("state(-1)", x.state(-1), MIN);
        due("look(6)", x.look(6), -1);
        x.editions(2);
        x.state(-1);
        due("look(8) behind state", x.look(8), 0);
    }

    private static void word() {
        CHECK.promise("promise 3");
        NoWordTwice x = new NoWordTwice();
        due("word(0)", x.word(0), NONE);
        due("word(-1)", x.word(-1), NONE);
        due("word(1024)", x.word(1024), NONE);
        due("word(MIN)", x.word(MIN), NONE);
        due("word(1)", x.word(1), 0);
        due("word(1023)", x.word(1023), 1);
        x.editions(1);
        due("word(0) again", x.word(0), NONE);
        due("a refused word forgets nothing", x.look(8), 1);
        for (int i = 2; i < 16; i++) {
            due("word(5)", x.word(5), i);
        }
        due("look(8) behind word", x.look(8), 0);
        due("a seventeenth", x.word(5), NONE);
        due("look(0)", x.look(0), 16);
        due("of(15, 1): not known at first", x.of(15, 1), 0);
    }

    private static void set() {
        CHECK.promise("promise 4");
        NoWordTwice x = Worlds.words(2);
        due("limit 0", x.set(0, 0, 0), false);
        due("limit 4", x.set(0, 0, 4), false);
        due("limit 3, word not asked", x.set(0, 99, 3), true);
        due("look(2)", x.look(2), 3);
        due("change -1", x.set(1, 0, -1), false);
        due("change 1001", x.set(1, 0, 1001), false);
        due("change 1000, word not asked", x.set(1, -5, 1000), true);
        due("look(3)", x.look(3), 1000);
        due("limit 1", x.set(0, 0, 1), true);
        due("look(2) again", x.look(2), 1);
        due("change 0", x.set(1, 0, 0), true);
        due("look(3) again", x.look(3), 0);
        due("known 2", x.set(2, 0, 2), false);
        due("known -1", x.set(2, 0, -1), false);
        due("known of no word", x.set(2, 2, 1), false);
        due("known of word -1", x.set(2, -1, 1), false);
        due("known", x.set(2, 1, 1), true);
        due("of(1, 1)", x.of(1, 1), 1);
        due("of(0, 1)", x.of(0, 1), 0);
        due("known again", x.set(2, 1, 1), true);
        due("not known", x.set(2, 1, 0), true);
        due("of(1, 1) then", x.of(1, 1), 0);
        due("marks 0", x.set(3, 0, 0), false);
        due("marks 1024", x.set(3, 0, 1024), false);
        due("marks of no word", x.set(3, 2, 1), false);
        due("marks", x.set(3, 0, 1023), true);
        due("of(0, 0)", x.of(0, 0), 1023);
        due("what 4", x.set(4, 0, 1), false);
        due("what -1", x.set(-1, 0, 1), false);
        x.editions(1);
        x.set(4, 0, 1);
        x.set(0, 0, 0);
        due("a refused set forgets nothing", x.look(8), 1);
        x.set(0, 0, 3);
        due("look(8) behind set", x.look(8), 0);
    }

    private static void entry() {
        CHECK.promise("promise 5");
        NoWordTwice x = Worlds.words(4);
        int[][] wrong = {{4, 0, NONE, NONE}, {-1, 0, NONE, NONE}, {0, 0, NONE, NONE}, {0, NONE, NONE, NONE},
            {0, 4, NONE, NONE}, {0, 1, 0, NONE}, {0, 1, 1, NONE}, {0, 1, 4, NONE}, {0, 1, -2, NONE},
            {0, 1, NONE, 2}, {0, 1, 2, 0}, {0, 1, 2, 1}, {0, 1, 2, 2}, {0, 1, 2, 4}, {0, 1, 2, -2},
            {0, 1, NONE, -2}, {0, 1, -2, -2}, {MIN, MAX, MAX, MIN}};
        for (int[] w : wrong) {
            due("entry" + java.util.Arrays.toString(w), x.entry(w[0], w[1], w[2], w[3]), NONE);
        }
        due("look(1)", x.look(1), 0);
        due("one", x.entry(0, 1, NONE, NONE), 0);
        due("two", x.entry(0, 3, 2, NONE), 1);
        due("three", x.entry(1, 3, 0, 2), 2);
        due("at(0, 1)", x.at(0, 1), 1);
        due("at(1, 1)", x.at(1, 1), 2);
        due("at(2, 1)", x.at(2, 1), 3);
        due("at(2, 10)", x.at(2, 10), 3);
        due("at(2, 11)", x.at(2, 11), 0);
        due("at(2, 12)", x.at(2, 12), 2);
        x.editions(1);
        x.entry(0, 0, 0, 0);
        due("a refused entry forgets nothing", x.look(8), 1);
        for (int i = 3; i < 12; i++) {
            due("same again", x.entry(0, 1, NONE, NONE), i);
        }
        due("look(8) behind entry", x.look(8), 0);
        due("a thirteenth", x.entry(0, 1, NONE, NONE), NONE);
        due("look(1) then", x.look(1), 12);
    }

    private static void heads(String call, NoWordTwice x, int... heads) {
        due(call + ": entries", x.look(1), heads.length);
        for (int e = 0; e < heads.length; e++) {
            due(call + ": head of " + e, x.at(e, 0), heads[e]);
        }
    }

    private static void drop() {
        CHECK.promise("promise 6");
        NoWordTwice x = Worlds.fourEntries();
        x.editions(1);
        due("drop(4)", x.drop(4), false);
        due("drop(-1)", x.drop(-1), false);
        due("drop(MIN)", x.drop(MIN), false);
        due("a refused drop forgets nothing", x.look(8), 1);
        due("drop(1)", x.drop(1), true);
        due("look(8) behind drop", x.look(8), 0);
        heads("drop(1)", x, 0, 2, 3);
        due("at(1, 11)", x.at(1, 11), 4);
        due("at(2, 1)", x.at(2, 1), 1);
        due("drop(2)", x.drop(2), true);
        heads("drop(2)", x, 0, 2);
        due("drop(0)", x.drop(0), true);
        heads("drop(0)", x, 2);
        due("drop(0) again", x.drop(0), true);
        due("drop(0) of none", x.drop(0), false);
        due("entry", x.entry(4, 0, NONE, NONE), 0);
    }

    private static void move() {
        CHECK.promise("promise 7");
        NoWordTwice x = Worlds.fourEntries();
        x.editions(1);
        due("move(4, 0)", x.move(4, 0), false);
        due("move(0, 4)", x.move(0, 4), false);
        due("move(-1, 0)", x.move(-1, 0), false);
        due("move(0, -1)", x.move(0, -1), false);
        due("a refused move forgets nothing", x.look(8), 1);
        due("move(0, 2)", x.move(0, 2), true);
        due("look(8) behind move", x.look(8), 0);
        heads("move(0, 2)", x, 1, 2, 0, 3);
        due("at(2, 1)", x.at(2, 1), 3);
        due("at(2, 12)", x.at(2, 12), 3);
        due("at(0, 11)", x.at(0, 11), NONE);
        due("move(3, 0)", x.move(3, 0), true);
        heads("move(3, 0)", x, 3, 1, 2, 0);
        due("move(1, 1)", x.move(1, 1), true);
        heads("move(1, 1)", x, 3, 1, 2, 0);
    }

    private static void feed() {
        CHECK.promise("promise 8");
        NoWordTwice x = new NoWordTwice();
        for (int i = 1; i <= 20; i++) {
            due("feed " + i, x.feed(0x20202020, 0x20202020, 0x20202020, 0x20202020, 0x20202020), 20 * i);
        }
        due("feed 21", x.feed(1, 1, 1, 1, 1), NONE);
        due("end(381)", x.end(381), true);
        due("feed behind 381", x.feed(1, 1, 1, 1, 1), NONE);
        due("text() of blanks", x.text(), 0);
        due("feed", x.feed(0x66697820, 0x7768656e, 0x20313e30, 0x3b6c6f6f, 0x73653b20), 20);
        due("highest bytes first", x.text(), 2);
        due("feed", x.feed(0x66697820, 0x7768656e, 0x20313e30, 0x3b6c6f6f, 0x7365ff3b), 20);
        due("a byte above 127", x.text(), NONE);
        due("its place", x.fault(1), 18);
    }

    private static void end() {
        CHECK.promise("promise 9");
        NoWordTwice x = new NoWordTwice();
        due("end(0)", x.end(0), true);
        due("end(1)", x.end(1), false);
        x.feed(0x6669783b, 0x6669783b, 0x6669783b, 0x6669783b, 0x6669783b);
        due("end(21)", x.end(21), false);
        due("end(-1)", x.end(-1), false);
        due("end(MIN)", x.end(MIN), false);
        due("end(20)", x.end(20), true);
        due("end(8)", x.end(8), true);
        due("end(9)", x.end(9), false);
        due("feed", x.feed(0x6c6f6f73, 0x653b2020, 0x20202020, 0x20202020, 0x20202020), 28);
        due("text()", x.text(), 3);
    }

    private static void text() {
        CHECK.promise("promise 10");
        NoWordTwice x = Worlds.words(3);
        due("an empty text", x.text(), 0);
        due("law", Check.law(x, "fix when many=1; loose;"), 2);
        due("look(7)", x.look(7), 2);
        due("the tape is empty", x.end(1), false);
        due("fixes", x.fixes(0, 2), 1);
        due("fixes not", x.fixes(0, 6), 0);
        due("a fault", Check.law(x, "loose"), NONE);
        due("the tape is empty behind a fault", x.end(1), false);
        due("look(7) stays", x.look(7), 2);
        due("fixes stays", x.fixes(0, 2), 1);
        x.editions(1);
        Check.law(x, "fix;");
        due("texts forget no edition", x.look(8), 1);
        due("an empty text then", x.text(), 0);
        due("no line fixes", x.fixes(0, 2), 0);
    }

    private static void fault() {
        CHECK.promise("promise 11");
        NoWordTwice x = new NoWordTwice();
        Check.law(x, "fix when 1/0=1;");
        due("fault(0)", x.fault(0), 2);
        due("fault(1)", x.fault(1), 11);
        due("fault(2)", x.fault(2), NONE);
        due("fault(-1)", x.fault(-1), NONE);
        Check.put(x, "fix");
        due("fault(0) until the next text()", x.fault(0), 2);
        x.text();
        due("fault(0) of the end", x.fault(0), 1);
        due("fault(1) of the end", x.fault(1), 3);
        Check.law(x, "fix;");
        due("fault(0) without one", x.fault(0), 0);
        due("fault(1) without one", x.fault(1), NONE);
    }

    /** The draws by which what an edition changes can be told ahead. */
    private static int drawn(int[] state, int m) {
        state[0] = state[0] * 1664525 + 1013904223;
        return (int) (((state[0] & 0xffffffffL) >> 8) % m);
    }

    private static void editions() {
        CHECK.promise("promise 12");
        NoWordTwice x = Worlds.fourEntries();
        due("editions(0)", x.editions(0), NONE);
        due("editions(51)", x.editions(51), NONE);
        due("editions(-1)", x.editions(-1), NONE);
        due("editions(MAX)", x.editions(MAX), NONE);
        due("look(4)", x.look(4), 0);
        due("without change", x.editions(50), 0);
        due("no draw without change", x.look(6), 0);
        due("look(4) then", x.look(4), 50);
        x.set(1, 0, 500);
        x.state(-77);
        int[] state = {-77};
        int[][] used = {{1, 2, 3}, {2}, {3, 4}, {4}};
        int changed = 0;
        for (int e = 0; e < 4; e++) {
            if (drawn(state, 1000) < 500) {
                int place = drawn(state, used[e].length);
                int word = drawn(state, 5);
                boolean free = word != e;
                for (int u : used[e]) {
                    free &= u != word;
                }
                if (free) {
                    used[e][place] = word;
                    changed++;
                }
            }
        }
        due("editions(1)", x.editions(1), changed);
        due("look(6)", x.look(6), state[0]);
        for (int e = 0; e < 4; e++) {
            for (int i = 0; i < used[e].length; i++) {
                due("at(" + e + ", 10 + " + i + ")", x.at(e, 10 + i), used[e][i]);
            }
        }
        NoWordTwice y = new NoWordTwice();
        for (int i = 0; i < 199; i++) {
            y.editions(50);
        }
        due("look(4) at 9950", y.look(4), 9950);
        due("editions(50) beyond", y.editions(50), NONE);
        due("look(4) stays", y.look(4), 9950);
        due("editions(49)", y.editions(49), 0);
        due("look(4) at 9999", y.look(4), 9999);
        due("editions(1) beyond", y.editions(1), NONE);
        due("look(8)", y.look(8), 6);
    }

    private static void of() {
        CHECK.promise("promise 13");
        NoWordTwice x = Worlds.fourEntries();
        x.word(4);
        due("marks", x.of(4, 0), 16);
        due("known", x.of(4, 1), 0);
        due("uses", x.of(2, 2), 2);
        due("uses of none", x.of(0, 2), 0);
        due("uses of 4", x.of(4, 2), 2);
        due("led", x.of(4, 3), 2);
        due("led first", x.of(2, 3), 0);
        due("led of none", x.of(0, 3), NONE);
        due("alike", x.of(5, 4), 1 << 2);
        due("alike back", x.of(2, 4), 1 << 5);
        due("alike of none", x.of(0, 4), 0);
        x.set(3, 4, 1);
        x.set(3, 5, 1);
        due("alike of two", x.of(4, 4), 1 << 0 | 1 << 5);
        due("no word", x.of(6, 0), -2);
        due("word -1", x.of(-1, 3), -2);
        due("what 5", x.of(0, 5), -2);
        due("what -1", x.of(0, -1), -2);
    }

    private static void at() {
        CHECK.promise("promise 14");
        NoWordTwice x = Worlds.fourEntries();
        due("without a law", x.at(0, 2), 0);
        Check.law(x, "fix when many=3;");
        due("head", x.at(2, 0), 2);
        due("how many", x.at(2, 1), 2);
        due("fixed", x.at(0, 2), 1);
        due("not fixed", x.at(2, 2), 0);
        due("10", x.at(2, 10), 3);
        due("11", x.at(2, 11), 4);
        due("12", x.at(2, 12), NONE);
        due("13", x.at(0, 13), NONE);
        due("3", x.at(2, 3), NONE);
        due("9", x.at(2, 9), NONE);
        due("-1", x.at(2, -1), NONE);
        due("MIN", x.at(2, MIN), NONE);
        due("MAX", x.at(2, MAX), NONE);
        due("no entry", x.at(4, 0), NONE);
        due("entry -1", x.at(-1, 0), NONE);
    }

    private static void fixes() {
        CHECK.promise("promise 15");
        NoWordTwice x = Worlds.wordsAndLaw(3, "fix when many=2 and head=1;");
        due("yes", x.fixes(1, 5), 1);
        due("another head", x.fixes(0, 6), 0);
        due("another set", x.fixes(1, 4), 0);
        due("the head in it", x.fixes(1, 7), NONE);
        due("none in it", x.fixes(1, 0), NONE);
        due("no such word in it", x.fixes(1, 8), NONE);
        due("a negative set", x.fixes(1, MIN), NONE);
        due("no head", x.fixes(3, 1), NONE);
        due("head -1", x.fixes(-1, 1), NONE);
        NoWordTwice y = Worlds.wordsAndLaw(16, "fix when many=15;");
        due("sixteen words", y.fixes(15, 0x7fff), 1);
        due("set 65536", y.fixes(0, 0x10000), NONE);
    }

    private static void judged(String call, NoWordTwice x, int which, int entry, int word) {
        due(call + ": which", x.judge(0), which);
        due(call + ": entry", x.judge(1), entry);
        due(call + ": word", x.judge(2), word);
    }

    private static void judge() {
        CHECK.promise("promise 16");
        NoWordTwice x = Worlds.wordsAndLaw(5, "loose when head=4; fix;");
        judged("no entry", x, 0, NONE, NONE);
        due("what 3", x.judge(3), NONE);
        due("what -1", x.judge(-1), NONE);
        x.entry(0, 1, 2, NONE);
        judged("not known", x, 4, 0, 1);
        x.set(2, 1, 1);
        judged("the second is not known", x, 4, 0, 2);
        x.set(2, 2, 1);
        judged("no fault", x, 0, NONE, NONE);
        x.entry(3, 0, NONE, NONE);
        judged("told ahead", x, 0, NONE, NONE);
        x.entry(4, 3, 2, 1);
        judged("used so often, by its row", x, 2, 2, 2);
        x.set(0, 0, 2);
        judged("not fixed", x, 3, 2, NONE);
        x.entry(0, 1, 2, NONE);
        judged("the first entry's fault", x, 3, 2, NONE);
        x.drop(2);
        judged("head of an earlier one", x, 1, 2, NONE);
        NoWordTwice y = Worlds.wordsAndLaw(5, "fix;");
        y.entry(0, 3, 4, NONE);
        y.entry(1, 4, 3, 2);
        y.set(2, 3, 1);
        y.set(2, 4, 1);
        judged("two are used so often: the first of the row", y, 2, 1, 4);
        x.move(1, 0);
        judged("told behind", x, 4, 0, 0);
        x.set(2, 0, 1);
        judged("then the next", x, 1, 2, NONE);
    }

    private static void learnt() {
        CHECK.promise("promise 17");
        NoWordTwice x = Worlds.wordsAndLaw(6, "loose when head=5; fix;");
        x.entry(3, 2, NONE, NONE);
        x.entry(2, 1, 0, NONE);
        x.entry(1, 0, NONE, NONE);
        x.entry(5, 0, NONE, NONE);
        x.set(2, 4, 1);
        due("round by round", x.learnt(1, 0), 15);
        due("rounds", x.learnt(1, 1), 3);
        due("known ones are not his", x.learnt(0, 0), 0);
        due("no round", x.learnt(0, 1), 0);
        due("one round", x.learnt(7, 1), 1);
        due("no round any more", x.learnt(15, 1), 0);
        due("not a set", x.learnt(64, 0), NONE);
        due("a negative set", x.learnt(-1, 0), NONE);
        due("what 2", x.learnt(1, 2), NONE);
        due("what -1", x.learnt(1, -1), NONE);
        due("nothing stays", x.of(1, 1), 0);
    }

    private static void order() {
        CHECK.promise("promise 18");
        NoWordTwice x = Worlds.words(6);
        x.entry(3, 2, NONE, NONE);
        x.entry(2, 0, NONE, NONE);
        x.entry(1, 0, NONE, NONE);
        x.entry(4, 5, NONE, NONE);
        x.entry(5, 4, NONE, NONE);
        due("nothing known", x.order(0), NONE);
        x.set(2, 0, 1);
        due("order(0)", x.order(0), 1);
        due("order(1): the first one left", x.order(1), 0);
        due("order(2)", x.order(2), 2);
        due("order(3): a ring", x.order(3), NONE);
        due("order(-1)", x.order(-1), NONE);
        due("order(MAX)", x.order(MAX), NONE);
        due("though none is fixed", x.at(0, 2), 0);
    }

    private static void ring() {
        CHECK.promise("promise 19");
        NoWordTwice x = Worlds.words(6);
        due("none", x.ring(), 0);
        x.entry(3, 2, NONE, NONE);
        x.entry(2, 0, NONE, NONE);
        x.entry(4, 5, NONE, NONE);
        x.entry(5, 4, NONE, NONE);
        due("all", x.ring(), 15);
        x.set(2, 0, 1);
        due("two", x.ring(), 12);
        x.set(2, 5, 1);
        due("cut", x.ring(), 0);
        NoWordTwice y = Worlds.words(2);
        for (int i = 0; i < 12; i++) {
            y.entry(i % 2, 1 - i % 2, NONE, NONE);
        }
        due("twelve", y.ring(), 4095);
    }

    private static void cut() {
        CHECK.promise("promise 20");
        NoWordTwice x = Worlds.words(6);
        due("none", x.cut(), 0);
        x.entry(0, 1, NONE, NONE);
        x.entry(1, 0, NONE, NONE);
        due("of two the least", x.cut(), 1);
        x.entry(2, 5, 0, NONE);
        due("a word that none tells", x.cut(), 33);
        x.entry(5, 2, NONE, NONE);
        due("two rings", x.cut(), 5);
        x.entry(0, 2, NONE, NONE);
        due("one word for both", x.cut(), 4);
        x.drop(2);
        x.entry(2, 1, NONE, NONE);
        due("fewest ahead of least", x.cut(), 1);
        x.set(2, 1, 1);
        due("known already", x.cut(), 0);
        NoWordTwice y = Worlds.words(16);
        for (int i = 0; i < 12; i++) {
            y.entry(i, (i + 1) % 12, 12 + i % 4, NONE);
        }
        due("a long ring", y.cut(), 0xf001);
        NoWordTwice z = Worlds.words(3);
        z.entry(1, 0, NONE, NONE);
        due("word 0, which none tells", z.cut(), 1);
        z.entry(0, 2, NONE, NONE);
        z.entry(2, 1, NONE, NONE);
        due("a ring of three", z.cut(), 1);
        z.drop(1);
        z.entry(0, 2, 1, NONE);
        due("another word cuts all", z.cut(), 1);
        z.drop(0);
        due("two rings through 1", z.cut(), 2);
    }

    private static void least() {
        CHECK.promise("promise 21");
        NoWordTwice x = Worlds.wordsAndLaw(6, "loose when head=4; fix;");
        due("none", x.least(), 0);
        x.entry(0, 1, NONE, NONE);
        x.entry(1, 0, NONE, NONE);
        due("of two the least", x.least(), 1);
        x.entry(4, 0, NONE, NONE);
        due("one that is not fixed", x.least(), 17);
        x.set(2, 0, 1);
        due("KNOWN does not matter", x.least(), 17);
        x.drop(2);
        x.entry(2, 5, NONE, NONE);
        x.entry(3, 5, NONE, NONE);
        due("a word that none tells", x.least(), 33);
        x.entry(0, 5, NONE, NONE);
        due("one word for all", x.least(), 32);
        Check.law(x, "");
        due("without a law all heads", x.least(), 15);
        NoWordTwice y = Worlds.wordsAndLaw(4, "fix;");
        y.entry(1, 0, NONE, NONE);
        y.entry(2, 0, NONE, NONE);
        due("word 0 for both", y.least(), 1);
        y.entry(0, 3, 1, NONE);
        due("and for itself", y.least(), 1);
    }

    private static void most() {
        CHECK.promise("promise 22");
        NoWordTwice x = Worlds.wordsAndLaw(7, "fix when many=2;");
        due("1: three pairs", x.most(1, 0), 3);
        due("1: none ahead of all", x.most(1, 10), 0);
        due("1: head 3", x.most(1, 13), 0);
        due("1: head 4 has the least", x.most(1, 14), 3);
        due("1: head 5", x.most(1, 15), 12);
        due("1: head 6", x.most(1, 16), 48);
        due("2: all", x.most(2, 0), 7);
        due("2: head 0", x.most(2, 10), 6);
        due("2: head 1", x.most(2, 11), 5);
        due("2: head 2", x.most(2, 12), 3);
        due("3: all", x.most(3, 0), 7);
        due("3: head 3", x.most(3, 13), 3);
        due("0", x.most(0, 0), NONE);
        due("4", x.most(4, 0), NONE);
        due("what 17", x.most(1, 17), NONE);
        due("what 9", x.most(1, 9), NONE);
        due("what 1", x.most(1, 1), NONE);
        due("what -1", x.most(1, -1), NONE);
        due("what MIN", x.most(1, MIN), NONE);
        Check.law(x, "fix when many=1 and head<2;");
        due("single sets", x.most(1, 0), 2);
        due("single set of 0", x.most(1, 10), 2);
        due("single set of 1", x.most(1, 11), 1);
        due("of 2", x.most(1, 12), 0);
        Check.law(x, "fix when many=1 and head=6 and common+more=1; fix when many=2 and head<1;");
        due("one set or two", x.most(1, 0), 2);
        due("the pair of 0", x.most(1, 10), 6);
        due("the single of 6", x.most(1, 16), 1);
        x.set(3, 0, 8);
        Check.law(x, "fix when head<6 and head>2 and common>0;");
        due("1: word 0 and 3 are alike", x.most(1, 0), 1);
        due("1: head 3 by 0", x.most(1, 13), 1);
        x.set(3, 4, 8);
        x.set(3, 5, 8);
        due("1: four alike", x.most(1, 0), 3);
        due("1: the first of them", x.most(1, 13), 1);
        due("1: the second", x.most(1, 14), 8);
        due("1: the third", x.most(1, 15), 16);
        due("2: the third by the next", x.most(2, 15), 8);
        due("3: all by the least", x.most(3, 15), 1);
        Check.law(x, "");
        due("without a law", x.most(3, 0), 0);
        x.word(1);
        due("eight words", x.most(1, 0), NONE);
    }

    private static void worn() {
        CHECK.promise("promise 23");
        NoWordTwice x = Worlds.wordsAndLaw(5, "fix when many>1;");
        x.entry(0, 1, 2, NONE);
        x.entry(1, 3, NONE, NONE);
        due("worn(0, 0)", x.worn(0, 0), 1 << 1 | 1 << 4);
        due("worn(0, 1)", x.worn(0, 1), 1 << 2 | 1 << 4);
        due("worn(1, 0): it would not fix", x.worn(1, 0), 0);
        x.set(0, 0, 2);
        due("limit 2", x.worn(0, 0), 1 << 1 | 1 << 3 | 1 << 4);
        x.entry(4, 1, NONE, NONE);
        x.entry(4, 1, NONE, NONE);
        due("its own word is used too often", x.worn(0, 0), 1 << 3 | 1 << 4);
        due("worn(0, 2)", x.worn(0, 2), NONE);
        due("worn(0, -1)", x.worn(0, -1), NONE);
        due("worn(4, 0)", x.worn(4, 0), NONE);
        due("worn(-1, 0)", x.worn(-1, 0), NONE);
    }

    private static void trade() {
        CHECK.promise("promise 24");
        NoWordTwice x = Worlds.wordsAndLaw(6, "fix when common>0;");
        x.set(3, 4, 1);
        x.set(3, 5, 2);
        x.entry(0, 5, 3, NONE);
        due("one entry", x.trade(0), 0);
        x.entry(1, 2, 4, NONE);
        due("how many", x.trade(0), 1);
        int[] first = {0, 1, 0, 1};
        for (int i = 0; i < 4; i++) {
            due("trade(" + (i + 1) + ")", x.trade(i + 1), first[i]);
        }
        due("what 5", x.trade(5), NONE);
        due("what -1", x.trade(-1), NONE);
        x.entry(0, 1, NONE, NONE);
        due("a word can't come to itself as the head", x.trade(0), 1);
        Check.law(x, "fix;");
        due("both did", x.trade(0), 0);
        due("none", x.trade(1), NONE);
        Check.law(x, "fix when many=2 and head=0 and common=1; fix when head=1;");
        due("one did, both would", x.trade(0), 2);
    }

    private static void book() {
        CHECK.promise("promise 25");
        bookOfSeveralEntries();
        NoWordTwice x = Worlds.words(16);
        x.entry(3, 1, NONE, NONE);
        x.set(1, 0, 1000);
        int lines = 0;
        int[] is = new int[80];
        for (int i = 0; i < 90; i++) {
            int changed = x.editions(1);
            if (changed == 1 && lines < 80) {
                is[lines] = x.at(0, 10);
                due("edition", x.book(lines, 0), i);
                due("is", x.book(lines, 3), is[lines]);
                lines++;
            }
        }
        for (int line = 0; line < lines; line++) {
            due("was", x.book(line, 2), line == 0 ? 1 : is[line - 1]);
        }
        due("entry", x.book(0, 1), 0);
        x.editions(50);
        due("80 lines, no more", x.look(5), 80);
        due("the last one stays", x.book(79, 0) < 100, true);
        due("line 80", x.book(80, 0), NONE);
        due("line -1", x.book(-1, 0), NONE);
        due("what 4", x.book(0, 4), NONE);
        due("what -1", x.book(0, -1), NONE);
        int end = x.at(0, 10);
        x.undo();
        due("undone with a full book", x.look(5), 80);
        x.editions(1);
        due("the same again", x.at(0, 10), end);
    }

    /** The lines of an edition, followed from the first, lead from what was to what is. */
    private static void bookOfSeveralEntries() {
        NoWordTwice x = Worlds.fourEntries();
        x.set(1, 0, 1000);
        int[][] used = new int[4][3];
        for (int e = 0; e < 4; e++) {
            for (int i = 0; i < 3; i++) {
                used[e][i] = x.at(e, 10 + i);
            }
        }
        x.editions(10);
        int earlier = -1;
        for (int line = 0; line < x.look(5); line++) {
            int place = x.book(line, 0) * 12 + x.book(line, 1);
            due("lines go on", place > earlier, true);
            earlier = place;
            for (int i = 0; i < 3; i++) {
                if (used[x.book(line, 1)][i] == x.book(line, 2)) {
                    used[x.book(line, 1)][i] = x.book(line, 3);
                }
            }
        }
        due("there are lines", x.look(5) > 3, true);
        for (int e = 0; e < 4; e++) {
            for (int i = 0; i < 3; i++) {
                due("what the book leads to", x.at(e, 10 + i), used[e][i]);
            }
        }
    }

    private static void undo() {
        CHECK.promise("promise 26");
        NoWordTwice x = Worlds.fourEntries();
        x.set(1, 0, 1000);
        int[][] seen = new int[12][];
        for (int i = 0; i < 8; i++) {
            seen[i] = picture(x);
            x.editions(1);
        }
        Check.law(x, "fix;");
        for (int i = 7; i >= 2; i--) {
            due("what can be undone", x.look(8), i - 1);
            due("undo()", x.undo(), true);
            int[] now = picture(x);
            for (int k = 0; k < now.length; k++) {
                due("edition " + i + " undone, " + k, now[k], seen[i][k]);
            }
        }
        due("6 are kept", x.undo(), false);
        due("the law stays", x.look(7), 1);
        x.editions(7);
        x.undo();
        x.editions(1);
        due("one more behind an undone one", x.look(8), 6);
        x.image(true);
        due("the taking of an image forgets nothing", x.look(8), 6);
        x.image(false);
        due("going back to it does", x.look(8), 0);
        due("undo() of nothing", x.undo(), false);
    }

    private static int[] picture(NoWordTwice x) {
        int[] all = new int[16];
        int k = 0;
        for (int e = 0; e < 4; e++) {
            for (int i = 0; i < 3; i++) {
                all[k++] = x.at(e, 10 + i);
            }
        }
        all[k++] = x.look(4);
        all[k++] = x.look(5);
        all[k++] = x.look(6);
        return all;
    }

    private static void image() {
        CHECK.promise("promise 27");
        imageOfTheBook();
        NoWordTwice x = Worlds.fourEntries();
        due("none", x.image(false), false);
        Check.law(x, "fix; loose;");
        x.set(0, 0, 2);
        x.set(1, 0, 700);
        x.set(2, 3, 1);
        x.state(99);
        x.editions(3);
        int[] seen = picture(x);
        due("taken", x.image(true), true);
        for (int again = 0; again < 2; again++) {
            Check.law(x, "loose;");
            Check.law(x, "loose");
            x.word(7);
            x.set(0, 0, 3);
            x.set(1, 0, 1000);
            x.set(2, 3, 0);
            x.set(3, 0, 1000);
            x.drop(0);
            x.drop(0);
            x.entry(4, 0, NONE, NONE);
            for (int undone = 0; undone < 6; undone++) {
                x.undo();
            }
            x.editions(5);
            x.feed(1, 2, 3, 4, 5);
            due("gone back", x.image(false), true);
            int[] now = picture(x);
            for (int k = 0; k < now.length; k++) {
                due("as it was, " + k, now[k], seen[k]);
            }
            due("words", x.look(0), 5);
            heads("gone back", x, 0, 1, 2, 3);
            due("limit", x.look(2), 2);
            due("change", x.look(3), 700);
            due("law", x.look(7), 2);
            due("fixes", x.fixes(0, 2), 1);
            due("known", x.of(3, 1), 1);
            due("marks", x.of(0, 0), 1);
            due("nothing to undo", x.look(8), 0);
            due("fault() is not gone back to", x.fault(0), 1);
            due("the tape is not gone back to", x.end(20), true);
            x.end(0);
        }
    }

    private static void imageOfTheBook() {
        NoWordTwice x = Worlds.fourEntries();
        x.set(1, 0, 1000);
        x.editions(4);
        int lines = x.look(5);
        int[] seen = new int[4 * lines];
        for (int i = 0; i < seen.length; i++) {
            seen[i] = x.book(i / 4, i % 4);
        }
        x.image(true);
        for (int i = 0; i < 4; i++) {
            x.undo();
        }
        x.state(123456);
        x.editions(10);
        x.image(false);
        due("lines", x.look(5), lines);
        for (int i = 0; i < seen.length; i++) {
            due("book(" + i / 4 + ", " + i % 4 + ")", x.book(i / 4, i % 4), seen[i]);
        }
    }

    private static void look() {
        CHECK.promise("promise 28");
        NoWordTwice x = Worlds.fourEntries();
        x.set(0, 0, 3);
        x.set(1, 0, 1000);
        Check.law(x, "fix;fix;fix;");
        x.state(5);
        int changed = x.editions(4);
        int[] looks = {5, 4, 3, 1000, 4, changed};
        for (int what = 0; what < looks.length; what++) {
            due("look(" + what + ")", x.look(what), looks[what]);
        }
        due("look(6)", x.look(6) != 5, true);
        due("look(7)", x.look(7), 3);
        due("look(8)", x.look(8), 4);
        due("look(9)", x.look(9), NONE);
        due("look(-1)", x.look(-1), NONE);
    }
}
