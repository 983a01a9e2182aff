/** The bounds of what is told: a new object, the state, words, what is set of them, and entries (promises 1 to 7). */
public final class TellingBoundsTest extends BoundsCase {
    public static void main(String[] args) {
        TellingBoundsTest test = new TellingBoundsTest();
        test.newObject();
        test.newObjectStandsAlone();
        test.objectAnswers512Calls();
        test.state();
        test.stateIsAnyInt();
        test.wordsAsTheyCome();
        test.marksOfANewWord();
        test.wordThatCannotBe();
        test.sixteenWords();
        test.setLimit();
        test.setChange();
        test.setAsksNoWord();
        test.setKnown();
        test.setMarks();
        test.setWhatCannotBe();
        test.setAnotherWhat();
        test.entryComesLast();
        test.entryOfOneToThreeWords();
        test.entryWithoutSome();
        test.entryThatCannotBe();
        test.twelveEntries();
        test.drop();
        test.dropOfNone();
        test.move();
        test.moveThatCannotBe();
        test.finish();
    }

    private void newObject() {
        sentence(1, "No words.");
        NoWordTwice x = new NoWordTwice();
        due("look(0)", x.look(0), 0);
        for (int what = 0; what < 5; what++) {
            due("of(0, " + what + ")", x.of(0, what), -2);
        }
        due("entry(0, 1, NONE, NONE)", x.entry(0, 1, NONE, NONE), NONE);
        due("fixes(0, 1)", x.fixes(0, 1), NONE);
        due("fixes(0, 0)", x.fixes(0, 0), NONE);
        due("learnt(0, 0)", x.learnt(0, 0), 0);
        due("learnt(1, 0)", x.learnt(1, 0), NONE);
        due("set(2, 0, 1)", x.set(2, 0, 1), false);
        due("set(3, 0, 1)", x.set(3, 0, 1), false);
        due("most(1, 0)", x.most(1, 0), 0);
        due("most(1, 10)", x.most(1, 10), NONE);
        int[] empty = {0, 0, 1, 0, 0, 0, 0, 0, 0, 0, NONE};
        same("a new object", Worlds.picture(new NoWordTwice()), empty);
        sentence(1, "`NONE = -1`: None.");
        due("NONE", NoWordTwice.NONE, -1);
    }

    private void newObjectStandsAlone() {
        sentence(1, "No words.");
        NoWordTwice busy = Worlds.busy();
        busy.image(true);
        busy.feed(0x6669783b, 0x20202020, 0x20202020, 0x20202020, 0x20202020);
        NoWordTwice x = new NoWordTwice();
        due("another object has words: look(0)", x.look(0), 0);
        due("another object has an image: image(false)", x.image(false), false);
        due("another object has a tape: end(1)", x.end(1), false);
        due("another object has editions: undo()", x.undo(), false);
        x.word(1);
        due("the other one's words", busy.look(0), 6);
    }

    private void objectAnswers512Calls() {
        sentence(1, "An object is used for at most 512 calls after it has been made");
        NoWordTwice x = Worlds.wordsAndLaw(7, "fix when many=2;");
        // Seven words and three calls of the law are behind us.
        for (int call = 11; call < 512; call++) {
            int m = 1 + call % 3;
            due("call " + call + ", most(" + m + ", 0)", x.most(m, 0), m == 1 ? 3 : 7);
        }
        due("call 512, most(1, 16)", x.most(1, 16), 48);
        NoWordTwice y = new NoWordTwice();
        for (int call = 1; call < 512; call++) {
            due("call " + call + ", state", y.state(call), call - 1);
        }
        due("call 512, look(6)", y.look(6), 511);
    }

    private void state() {
        sentence(2, "STATE is told: what it was.");
        NoWordTwice x = new NoWordTwice();
        due("state(7)", x.state(7), 0);
        due("state(7) again", x.state(7), 7);
        due("state(0)", x.state(0), 7);
        due("look(6)", x.look(6), 0);
        NoWordTwice y = Worlds.busy();
        int[] before = Worlds.picture(y);
        before[6] = 77;
        before[8] = 0;
        y.state(77);
        same("nothing but the state, and what can be undone", Worlds.picture(y), before);
    }

    private void stateIsAnyInt() {
        sentence(2, "STATE of draws (an int, 0 at first)");
        NoWordTwice x = new NoWordTwice();
        due("look(6) at first", x.look(6), 0);
        due("state(MIN)", x.state(MIN), 0);
        due("state(MAX)", x.state(MAX), MIN);
        due("state(-1)", x.state(-1), MAX);
        due("look(6)", x.look(6), -1);
    }

    private void wordsAsTheyCome() {
        sentence(3, "WORDS 0 .. 15 as they come");
        NoWordTwice x = new NoWordTwice();
        for (int i = 0; i < 16; i++) {
            due("word " + i, x.word(1023 - i), i);
            due("look(0)", x.look(0), i + 1);
        }
        for (int i = 0; i < 16; i++) {
            due("of(" + i + ", 0)", x.of(i, 0), 1023 - i);
        }
        sentence(3, "A WORD: its number");
        NoWordTwice y = new NoWordTwice();
        due("word(5)", y.word(5), 0);
        due("word(5): the same marks, another word", y.word(5), 1);
        due("word(0): refused", y.word(0), NONE);
        due("word(5) behind a refused one", y.word(5), 2);
    }

    private void marksOfANewWord() {
        sentence(3, "MARKS (a set of ten, 1 .. 1023)");
        for (int marks : new int[] {1, 2, 512, 1022, 1023}) {
            NoWordTwice x = new NoWordTwice();
            due("word(" + marks + ")", x.word(marks), 0);
            due("of(0, 0)", x.of(0, 0), marks);
        }
    }

    private void wordThatCannotBe() {
        sentence(3, "NONE if one can't be");
        for (int marks : new int[] {0, -1, -1023, 1024, 1025, 2047, 1 << 16 | 1, MIN, MIN | 1, MAX}) {
            leaves("word(" + marks + ")", NONE, x -> x.word(marks));
        }
    }

    private void sixteenWords() {
        sentence(3, "or there are sixteen.");
        due("the sixteenth", Worlds.words(15).word(1), 15);
        leaves("the seventeenth", Worlds.words(16), NONE, x -> x.word(1));
        leaves("a seventeenth that can't be", Worlds.words(16), NONE, x -> x.word(0));
        NoWordTwice x = Worlds.words(16);
        x.editions(1);
        x.word(1);
        due("a refused seventeenth forgets nothing", x.look(8), 1);
    }

    private void setLimit() {
        sentence(4, "LIMIT 1 .. 3 (1 at first)");
        NoWordTwice x = new NoWordTwice();
        due("look(2) at first", x.look(2), 1);
        for (int v : new int[] {3, 2, 1}) {
            due("set(0, 0, " + v + ")", x.set(0, 0, v), true);
            due("look(2)", x.look(2), v);
        }
        for (int v : new int[] {0, 4, -1, MIN, MAX}) {
            leaves("set(0, 0, " + v + ")", 0, y -> number(y.set(0, 0, v)));
        }
    }

    private void setChange() {
        sentence(4, "CHANGE 0 .. 1000 (0 at first)");
        NoWordTwice x = new NoWordTwice();
        due("look(3) at first", x.look(3), 0);
        for (int v : new int[] {1000, 999, 1, 0}) {
            due("set(1, 0, " + v + ")", x.set(1, 0, v), true);
            due("look(3)", x.look(3), v);
        }
        for (int v : new int[] {-1, 1001, MIN, MAX}) {
            leaves("set(1, 0, " + v + ")", 0, y -> number(y.set(1, 0, v)));
        }
    }

    private void setAsksNoWord() {
        sentence(4, "What 0 LIMIT, 1 CHANGE (WORD not asked)");
        for (int word : new int[] {-1, 0, 1, 16, 31, 32, MIN, MAX}) {
            NoWordTwice x = new NoWordTwice();
            due("set(0, " + word + ", 3) without words", x.set(0, word, 3), true);
            due("set(1, " + word + ", 9) without words", x.set(1, word, 9), true);
            due("look(2)", x.look(2), 3);
            due("look(3)", x.look(3), 9);
        }
    }

    private void setKnown() {
        sentence(4, "KNOWN or not (not at first)");
        NoWordTwice x = Worlds.words(16);
        for (int w = 0; w < 16; w++) {
            due("of(" + w + ", 1) at first", x.of(w, 1), 0);
        }
        sentence(4, "2 KNOWN (0, 1) of a WORD");
        due("set(2, 15, 1)", x.set(2, 15, 1), true);
        due("set(2, 0, 1)", x.set(2, 0, 1), true);
        due("set(2, 15, 1) again", x.set(2, 15, 1), true);
        for (int w = 0; w < 16; w++) {
            due("of(" + w + ", 1)", x.of(w, 1), w == 0 || w == 15 ? 1 : 0);
        }
        due("set(2, 15, 0)", x.set(2, 15, 0), true);
        due("of(15, 1)", x.of(15, 1), 0);
        due("of(0, 1) stays", x.of(0, 1), 1);
        for (int v : new int[] {-1, 2, 3, MIN, MAX}) {
            leaves("set(2, 1, " + v + ")", 0, y -> number(y.set(2, 1, v)));
            leaves("set(2, 2, " + v + ")", 0, y -> number(y.set(2, 2, v)));
        }
    }

    private void setMarks() {
        sentence(4, "3 MARKS of a WORD: true");
        NoWordTwice x = Worlds.words(16);
        for (int v : new int[] {1, 1023}) {
            due("set(3, 0, " + v + ")", x.set(3, 0, v), true);
            due("of(0, 0)", x.of(0, 0), v);
            due("set(3, 15, " + v + ")", x.set(3, 15, v), true);
            due("of(15, 0)", x.of(15, 0), v);
        }
        due("of(1, 0) stays", x.of(1, 0), 2);
        due("of(14, 0) stays", x.of(14, 0), 16);
        due("the marks do not make it known", x.of(15, 1), 0);
        for (int v : new int[] {0, -1, 1024, MIN, MAX}) {
            leaves("set(3, 0, " + v + ")", 0, y -> number(y.set(3, 0, v)));
        }
    }

    private void setWhatCannotBe() {
        sentence(4, "false if one can't be");
        for (int word : new int[] {-1, 6, 16, 32, 33, MIN, MAX}) {
            for (int v : new int[] {0, 1}) {
                leaves("set(2, " + word + ", " + v + ")", 0, x -> number(x.set(2, word, v)));
            }
            leaves("set(3, " + word + ", 5)", 0, x -> number(x.set(3, word, 5)));
        }
        due("the last word there is", Worlds.busy().set(3, 5, 5), true);
        leaves("word 16 of sixteen", Worlds.words(16), 0, x -> number(x.set(3, 16, 5)));
    }

    private void setAnotherWhat() {
        sentence(4, "or another what.");
        for (int what : new int[] {-1, 4, 5, 256, MIN, MAX}) {
            leaves("set(" + what + ", 1, 1)", 0, x -> number(x.set(what, 1, 1)));
        }
    }

    private void entryComesLast() {
        sentence(5, "An ENTRY comes last");
        NoWordTwice x = Worlds.words(4);
        due("the first", x.entry(3, 0, NONE, NONE), 0);
        due("the second", x.entry(0, 1, NONE, NONE), 1);
        due("the third has the head of the first", x.entry(3, 2, NONE, NONE), 2);
        due("the fourth is the second again", x.entry(0, 1, NONE, NONE), 3);
        heads("as they came", x, 3, 0, 3, 0);
        x.drop(0);
        due("behind a dropped one", x.entry(1, 2, NONE, NONE), 3);
        sentence(5, "(empty at first)");
        due("look(1) at first", Worlds.words(16).look(1), 0);
        due("at(0, 0) at first", Worlds.words(16).at(0, 0), NONE);
    }

    private void entryOfOneToThreeWords() {
        sentence(5, "each a HEAD (a WORD) and one to three unlike WORDS");
        NoWordTwice x = Worlds.words(16);
        due("one", x.entry(0, 15, NONE, NONE), 0);
        due("two", x.entry(15, 14, 0, NONE), 1);
        due("three", x.entry(7, 15, 0, 8), 2);
        rowIs(x, 0, 0, 15);
        rowIs(x, 1, 15, 14, 0);
        rowIs(x, 2, 7, 15, 0, 8);
        for (int[] w : new int[][] {{0, 1, 1, NONE}, {0, 1, 1, 2}, {0, 1, 2, 1}, {0, 1, 2, 2}, {0, 1, 1, 1}}) {
            refusesEntry(w);
        }
        sentence(5, "other ones than its HEAD, by which it is told (the USED ones, a row)");
        for (int[] w : new int[][] {{0, 0, NONE, NONE}, {0, 0, 1, 2}, {0, 1, 0, NONE}, {0, 1, 0, 2}, {0, 1, 2, 0},
            {5, 5, NONE, NONE}, {5, 1, 2, 5}}) {
            refusesEntry(w);
        }
    }

    private void entryWithoutSome() {
        sentence(5, "(b, c NONE: no such one; c not without b): its place");
        for (int[] w : new int[][] {{0, 1, NONE, 2}, {0, 1, NONE, 1}, {0, 1, NONE, 0}, {0, 1, NONE, 99},
            {0, NONE, NONE, NONE}, {0, NONE, 1, NONE}, {0, NONE, 1, 2}}) {
            refusesEntry(w);
        }
    }

    private void entryThatCannotBe() {
        sentence(5, "NONE if one can't be");
        for (int wrong : new int[] {-2, 6, 16, 32, 33, MIN, MAX}) {
            refusesEntry(wrong, 1, NONE, NONE);
            refusesEntry(0, wrong, NONE, NONE);
            refusesEntry(0, 1, wrong, NONE);
            refusesEntry(0, 1, 2, wrong);
            refusesEntry(0, 1, NONE, wrong);
        }
        refusesEntry(NONE, 1, NONE, NONE);
        refusesEntry(NONE, NONE, NONE, NONE);
        due("the last word there is", Worlds.busy().entry(5, 1, 2, 4), 3);
        due("by the last word there is", Worlds.busy().entry(0, 1, 2, 5), 3);
        NoWordTwice lone = Worlds.words(1);
        due("one word can't tell itself", lone.entry(0, 0, NONE, NONE), NONE);
        due("a word that comes later", lone.entry(0, 1, NONE, NONE), NONE);
        lone.word(1);
        due("when it has come", lone.entry(0, 1, NONE, NONE), 0);
    }

    private void twelveEntries() {
        sentence(5, "or there are twelve.");
        leaves("the thirteenth", Worlds.chain("fix;"), NONE, x -> x.entry(0, 1, NONE, NONE));
        NoWordTwice x = Worlds.chain("fix;");
        due("the twelfth is there", x.at(11, 0), 11);
        x.drop(3);
        due("room again", x.entry(0, 1, NONE, NONE), 11);
        due("and no more", x.entry(0, 1, NONE, NONE), NONE);
        sentence(5, "THE DICTIONARY: a row of ENTRIES, 12 at most");
        due("look(1)", x.look(1), 12);
        due("at(12, 0)", x.at(12, 0), NONE);
    }

    private void drop() {
        sentence(6, "An ENTRY goes, those behind it come one further ahead: true");
        NoWordTwice first = Worlds.fourEntries();
        due("drop(0)", first.drop(0), true);
        heads("drop(0)", first, 1, 2, 3);
        rowIs(first, 1, 2, 3, 4);
        NoWordTwice middle = Worlds.fourEntries();
        due("drop(2)", middle.drop(2), true);
        heads("drop(2)", middle, 0, 1, 3);
        rowIs(middle, 0, 0, 1, 2, 3);
        NoWordTwice last = Worlds.fourEntries();
        due("drop(3)", last.drop(3), true);
        heads("drop(3)", last, 0, 1, 2);
        due("at(3, 0)", last.at(3, 0), NONE);
        for (int left = 2; left >= 0; left--) {
            due("drop(0), " + left + " left", last.drop(0), true);
            due("look(1)", last.look(1), left);
        }
        due("no use is left", last.of(3, 2), 0);
        NoWordTwice full = Worlds.chain("fix;");
        due("drop(11) of twelve", full.drop(11), true);
        due("drop(0) of eleven", full.drop(0), true);
        heads("ten are left", full, 1, 2, 3, 4, 5, 6, 7, 8, 9, 10);
    }

    private void dropOfNone() {
        sentence(6, "false if there is none such.");
        for (int entry : new int[] {-1, 3, 4, 12, MIN, MAX}) {
            leaves("drop(" + entry + ") of three", 0, x -> number(x.drop(entry)));
        }
        leaves("drop(12) of twelve", Worlds.chain("fix;"), 0, x -> number(x.drop(12)));
        leaves("drop(0) of none", Worlds.words(3), 0, x -> number(x.drop(0)));
    }

    private void move() {
        sentence(7, "An ENTRY comes to another place, the others as they stood: true");
        int[][] moved = {{0, 3, 1, 2, 3, 0}, {3, 0, 3, 0, 1, 2}, {1, 2, 0, 2, 1, 3}, {2, 1, 0, 2, 1, 3},
            {0, 1, 1, 0, 2, 3}, {3, 2, 0, 1, 3, 2}, {0, 0, 0, 1, 2, 3}, {3, 3, 0, 1, 2, 3}};
        for (int[] m : moved) {
            NoWordTwice x = Worlds.fourEntries();
            due("move(" + m[0] + ", " + m[1] + ")", x.move(m[0], m[1]), true);
            heads("move(" + m[0] + ", " + m[1] + ")", x, m[2], m[3], m[4], m[5]);
        }
        NoWordTwice x = Worlds.fourEntries();
        x.move(0, 3);
        rowIs(x, 3, 0, 1, 2, 3);
        rowIs(x, 0, 1, 2);
        NoWordTwice full = Worlds.chain("fix;");
        due("move(0, 11) of twelve", full.move(0, 11), true);
        due("move(10, 0) of twelve", full.move(10, 0), true);
        heads("twelve", full, 11, 1, 2, 3, 4, 5, 6, 7, 8, 9, 10, 0);
        NoWordTwice one = Worlds.words(2);
        one.entry(0, 1, NONE, NONE);
        due("move(0, 0) of one", one.move(0, 0), true);
    }

    private void moveThatCannotBe() {
        sentence(7, "false if one can't be.");
        for (int wrong : new int[] {-1, 3, 4, 12, MIN, MAX}) {
            leaves("move(" + wrong + ", 0) of three", 0, x -> number(x.move(wrong, 0)));
            leaves("move(0, " + wrong + ") of three", 0, x -> number(x.move(0, wrong)));
            leaves("move(" + wrong + ", " + wrong + ") of three", 0, x -> number(x.move(wrong, wrong)));
        }
        leaves("move(0, 0) of none", Worlds.words(3), 0, x -> number(x.move(0, 0)));
        leaves("move(0, 12) of twelve", Worlds.chain("fix;"), 0, x -> number(x.move(0, 12)));
        leaves("move(12, 0) of twelve", Worlds.chain("fix;"), 0, x -> number(x.move(12, 0)));
    }

    private void refusesEntry(int... w) {
        String call = "entry(" + w[0] + ", " + w[1] + ", " + w[2] + ", " + w[3] + ")";
        leaves(call, NONE, x -> x.entry(w[0], w[1], w[2], w[3]));
    }

    private void heads(String call, NoWordTwice x, int... heads) {
        due(call + ": look(1)", x.look(1), heads.length);
        for (int e = 0; e < heads.length; e++) {
            due(call + ": at(" + e + ", 0)", x.at(e, 0), heads[e]);
        }
    }

    private void rowIs(NoWordTwice x, int entry, int head, int... used) {
        due("at(" + entry + ", 0)", x.at(entry, 0), head);
        due("at(" + entry + ", 1)", x.at(entry, 1), used.length);
        for (int i = 0; i < used.length; i++) {
            due("at(" + entry + ", " + (10 + i) + ")", x.at(entry, 10 + i), used[i]);
        }
        due("at(" + entry + ", " + (10 + used.length) + ")", x.at(entry, 10 + used.length), NONE);
    }
}
