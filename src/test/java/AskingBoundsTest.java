/** The bounds of what is asked of words, entries, sets and the whole dictionary (promises 13 to 19). */
public final class AskingBoundsTest extends BoundsCase {
    public static void main(String[] args) {
        AskingBoundsTest test = new AskingBoundsTest();
        test.nothingStays();
        test.ofAWord();
        test.uses();
        test.led();
        test.alike();
        test.ofNone();
        test.atAnEntry();
        test.atNone();
        test.fixes();
        test.fixesThatCannotBe();
        test.firstLineThatIsSo();
        test.valuesOfMarks();
        test.valuesOfWords();
        test.judgeWithoutFault();
        test.firstFaultOfAnEntry();
        test.headOfAnEarlierEntry();
        test.usedSoOften();
        test.doNotFix();
        test.notKnown();
        test.judgeOfAnotherWhat();
        test.learnt();
        test.learntRoundByRound();
        test.learntThatCannotBe();
        test.order();
        test.orderOfNone();
        test.ring();
        test.finish();
    }

    private void nothingStays() {
        sentence(17, "IN THOUGHT (nothing of it stays).");
        leaves("learnt(2, 0)", Worlds.chain("fix;"), 3, x -> x.learnt(2, 0));
        leaves("order(0)", Worlds.chain("fix;"), NONE, x -> x.order(0));
        leaves("ring()", Worlds.chain("fix;"), 4095, x -> x.ring());
        leaves("cut()", Worlds.chain("fix;"), 4096, x -> x.cut());
        leaves("least()", Worlds.chain("fix;"), 2048, x -> x.least());
        leaves("most(1, 0)", Worlds.wordsAndLaw(7, "fix;"), 7, x -> x.most(1, 0));
        leaves("worn(0, 0)", Worlds.chain("fix;"), 1 << 1, x -> x.worn(0, 0));
        leaves("trade(0)", Worlds.chain("fix;"), 0, x -> x.trade(0));
        leaves("judge(0)", Worlds.chain("fix;"), 4, x -> x.judge(0));
        leaves("fixes(0, 2)", Worlds.chain("fix;"), 1, x -> x.fixes(0, 2));
    }

    private void ofAWord() {
        sentence(13, "Of a WORD what 0 MARKS, 1 KNOWN (1, 0), 2 USES, 3 LED (NONE), 4 ALIKE (a set).");
        NoWordTwice x = Worlds.words(16);
        x.set(3, 15, 1023);
        x.set(2, 15, 1);
        due("of(0, 0)", x.of(0, 0), 1);
        due("of(15, 0)", x.of(15, 0), 1023);
        due("of(0, 1)", x.of(0, 1), 0);
        due("of(14, 1)", x.of(14, 1), 0);
        due("of(15, 1)", x.of(15, 1), 1);
        due("of(15, 2)", x.of(15, 2), 0);
        due("of(15, 3)", x.of(15, 3), NONE);
        due("of(15, 4)", x.of(15, 4), 0);
        due("of(0, 4)", x.of(0, 4), 1 << 10);
    }

    private void uses() {
        sentence(13, "USES of a WORD: in how many ENTRIES it is USED.");
        NoWordTwice x = Worlds.words(16);
        due("of none", x.of(15, 2), 0);
        for (int e = 0; e < 12; e++) {
            x.entry(e, 15, e + 1, e + 2);
            due("of " + (e + 1) + " entries", x.of(15, 2), e + 1);
        }
        due("in the second place of a row and the third", x.of(12, 2), 2);
        due("in the third place alone", x.of(13, 2), 1);
        due("the head is not used", x.of(0, 2), 0);
        x.drop(11);
        due("behind a dropped one", x.of(15, 2), 11);
        x.drop(0);
        due("behind another", x.of(15, 2), 10);
    }

    private void led() {
        sentence(13, "LED: the first ENTRY in which a WORD is USED.");
        NoWordTwice x = Worlds.chain("fix;");
        due("a head alone", x.of(0, 3), NONE);
        due("in the first", x.of(1, 3), 0);
        due("in the last", x.of(12, 3), 11);
        x.drop(0);
        x.entry(0, 1, 2, 12);
        due("in the last alone", x.of(1, 3), 11);
        due("in the first and the last", x.of(2, 3), 0);
        due("in the last but one and the last", x.of(12, 3), 10);
        x.move(11, 0);
        due("the last has come first", x.of(12, 3), 0);
    }

    private void alike() {
        sentence(13, "ALIKE of a WORD: the other WORDS of the same MARKS.");
        NoWordTwice x = new NoWordTwice();
        x.word(5);
        due("a lone word", x.of(0, 4), 0);
        for (int i = 1; i < 16; i++) {
            x.word(5);
        }
        for (int w = 0; w < 16; w++) {
            due("all sixteen, of(" + w + ", 4)", x.of(w, 4), 0xffff & ~(1 << w));
        }
        x.set(3, 15, 7);
        due("more marks are other marks", x.of(15, 4), 0);
        due("one less", x.of(0, 4), 0x7ffe);
    }

    private void ofNone() {
        sentence(13, "NONE - 1 if there is none such, or another what.");
        for (int word : new int[] {-1, 6, 7, 16, 31, 32, 33, MIN, MAX}) {
            for (int what : new int[] {0, 1, 2, 3, 4, 5}) {
                due("of(" + word + ", " + what + ")", Worlds.busy().of(word, what), -2);
            }
        }
        for (int what : new int[] {-1, 5, 6, 10, MIN, MAX}) {
            leaves("of(0, " + what + ")", -2, x -> x.of(0, what));
            leaves("of(5, " + what + ")", -2, x -> x.of(5, what));
        }
        due("of(16, 0) of sixteen", Worlds.words(16).of(16, 0), -2);
        due("of(0, 0) without words", new NoWordTwice().of(0, 0), -2);
    }

    private void atAnEntry() {
        sentence(14, "Of an ENTRY what 0 HEAD, 1 how many are USED, 2 1 if they FIX it, else 0, "
                + "10 + i the i-th USED one.");
        NoWordTwice x = Worlds.wordsAndLaw(16, "fix when many=2;");
        x.entry(15, 3, NONE, NONE);
        x.entry(0, 15, 4, NONE);
        x.entry(7, 2, 15, 0);
        int[][] want = {{15, 1, 0, 3, NONE, NONE}, {0, 2, 1, 15, 4, NONE}, {7, 3, 0, 2, 15, 0}};
        for (int e = 0; e < 3; e++) {
            for (int i = 0; i < 6; i++) {
                int what = i < 3 ? i : 7 + i;
                due("at(" + e + ", " + what + ")", x.at(e, what), want[e][i]);
            }
        }
        due("at(11, 0) of twelve", Worlds.chain("fix;").at(11, 0), 11);
        due("at(11, 10) of twelve", Worlds.chain("fix;").at(11, 10), 12);
        due("at(0, 2) without a law", Worlds.chain("").at(0, 2), 0);
    }

    private void atNone() {
        sentence(14, "NONE if there is none such, or another what.");
        for (int entry : new int[] {-1, 3, 4, 12, MIN, MAX}) {
            for (int what : new int[] {0, 1, 2, 10, 11, 12}) {
                due("at(" + entry + ", " + what + ")", Worlds.busy().at(entry, what), NONE);
            }
        }
        for (int what : new int[] {-1, 3, 4, 9, 13, 14, 20, MIN, MIN + 10, MAX}) {
            leaves("at(0, " + what + ")", NONE, x -> x.at(0, what));
        }
        due("at(1, 11) of one used word", Worlds.busy().at(1, 11), NONE);
        due("at(2, 12) of two", Worlds.busy().at(2, 12), NONE);
        due("at(12, 0) of twelve", Worlds.chain("fix;").at(12, 0), NONE);
        due("at(0, 0) without entries", Worlds.words(3).at(0, 0), NONE);
    }

    private void fixes() {
        sentence(15, "Whether a set of WORDS (1 at least, HEAD not in it) FIXES a HEAD: 1 or 0");
        NoWordTwice x = Worlds.wordsAndLaw(16, "fix when many=1; fix when many=15;");
        due("one word", x.fixes(0, 2), 1);
        due("the last word", x.fixes(0, 1 << 15), 1);
        due("two words", x.fixes(0, 6), 0);
        due("fourteen words", x.fixes(0, 0x7ffe), 0);
        due("all but the head", x.fixes(0, 0xfffe), 1);
        due("all but the last", x.fixes(15, 0x7fff), 1);
        due("no word", x.fixes(0, 0), NONE);
        due("the head in it", x.fixes(0, 3), NONE);
        due("the head alone", x.fixes(0, 1), NONE);
        due("the last as head in it", x.fixes(15, 0xffff), NONE);
    }

    private void fixesThatCannotBe() {
        sentence(15, "NONE if one can't be.");
        for (int head : new int[] {-1, 6, 16, 31, 32, 33, MIN, MAX}) {
            leaves("fixes(" + head + ", 2)", NONE, x -> x.fixes(head, 2));
        }
        for (int set : new int[] {0, 1, 3, 64, 66, 1 << 16, 1 << 31, 1 << 31 | 2, -1, -2, MAX, MAX - 1}) {
            leaves("fixes(0, " + set + ")", NONE, x -> x.fixes(0, set));
        }
        due("fixes(5, 31): all words there are", Worlds.busy().fixes(5, 31), 0);
        due("fixes(0, 65538) of sixteen", Worlds.words(16).fixes(0, 65538), NONE);
        due("fixes(0, 2) of one", Worlds.words(1).fixes(0, 2), NONE);
    }

    private void firstLineThatIsSo() {
        sentence(15, "A set of WORDS FIXES a HEAD by the first line whose B is so, or that has none "
                + "(fix: yes; loose: no); no without one.");
        fixedBy("", 0);
        fixedBy("fix;", 1);
        fixedBy("loose;", 0);
        fixedBy("loose;fix;", 0);
        fixedBy("fix;loose;", 1);
        fixedBy("fix when 1=1;", 1);
        fixedBy("fix when 1=2;", 0);
        fixedBy("loose when 1=2;", 0);
        fixedBy("loose when 1=2;fix;", 1);
        fixedBy("fix when 1=2;loose when 1=1;fix;", 0);
        fixedBy("loose when 1=2;fix when 1=1;loose;", 1);
        fixedBy("loose when 1=2;".repeat(15) + "fix;", 1);
        fixedBy("fix when 1=2;".repeat(16), 0);
        fixedBy("loose;".repeat(15) + "fix;", 0);
    }

    private void fixedBy(String law, int want) {
        NoWordTwice x = Worlds.wordsAndLaw(3, law);
        due("'" + law + "'", x.fixes(0, 6), want);
        x.entry(0, 1, 2, NONE);
        due("'" + law + "', at(0, 2)", x.at(0, 2), want);
    }

    private void value(NoWordTwice x, int head, int set, String value, int want) {
        String law = "fix when " + value + "=" + want + ";";
        due("text(): " + law, Check.law(x, law), 1);
        due("fixes(" + head + ", " + set + ") by " + law, x.fixes(head, set), 1);
    }

    private void valuesOfMarks() {
        sentence(15, "With ALL the MARKS that some of the set has: common: how many MARKS of the HEAD are in ALL");
        NoWordTwice x = new NoWordTwice();
        int[] marks = {1023, 1, 512, 1023, 31, 992, 3};
        for (int m : marks) {
            x.word(m);
        }
        value(x, 0, 1 << 1, "common", 1);
        value(x, 0, 1 << 3, "common", 10);
        value(x, 0, 1 << 4 | 1 << 5, "common", 10);
        value(x, 1, 1 << 2, "common", 0);
        value(x, 0, 1 << 1 | 1 << 6, "common", 2);
        sentence(15, "lack: how many of them are not");
        value(x, 0, 1 << 1, "lack", 9);
        value(x, 0, 1 << 3, "lack", 0);
        value(x, 1, 1 << 2, "lack", 1);
        value(x, 4, 1 << 5, "lack", 5);
        value(x, 1, 1 << 3, "lack", 0);
        sentence(15, "more: how many of ALL the HEAD has not");
        value(x, 0, 1 << 3, "more", 0);
        value(x, 1, 1 << 3, "more", 9);
        value(x, 1, 1 << 2, "more", 1);
        value(x, 4, 1 << 5, "more", 5);
        value(x, 1, 1 << 2 | 1 << 5, "more", 5);
    }

    private void valuesOfWords() {
        sentence(15, "many: how many WORDS are in the set");
        NoWordTwice x = new NoWordTwice();
        for (int i = 0; i < 16; i++) {
            x.word(i < 14 ? 3 : 1023);
        }
        value(x, 0, 2, "many", 1);
        value(x, 0, 0xfffe, "many", 15);
        value(x, 15, 0x7fff, "many", 15);
        sentence(15, "others: WORDS but the HEAD, not in the set, all of whose MARKS are in ALL");
        value(x, 15, 1, "others", 13);
        value(x, 0, 1 << 1, "others", 12);
        value(x, 0, 1 << 15, "others", 14);
        value(x, 0, 0xfffe, "others", 0);
        value(x, 5, 1 << 1, "others", 12);
        value(x, 14, 1 << 15, "others", 14);
        value(x, 15, 0x7fff, "others", 0);
        x.set(3, 0, 1);
        value(x, 1, 1, "others", 0);
        value(x, 15, 1 << 1, "others", 13);
        x.set(3, 0, 4);
        value(x, 15, 1 << 1, "others", 12);
        sentence(15, "head: its number.");
        value(x, 0, 2, "head", 0);
        value(x, 15, 2, "head", 15);
    }

    private void judged(String call, NoWordTwice x, int which, int entry, int word) {
        due(call + ": judge(0)", x.judge(0), which);
        due(call + ": judge(1)", x.judge(1), entry);
        due(call + ": judge(2)", x.judge(2), word);
    }

    private void judgeWithoutFault() {
        sentence(16, "FAULT of THE DICTIONARY what 0 which (0: none), 1 the ENTRY (NONE), 2 the WORD told (NONE).");
        judged("a new object", new NoWordTwice(), 0, NONE, NONE);
        judged("words alone", Worlds.words(16), 0, NONE, NONE);
        NoWordTwice x = Worlds.chain("fix;");
        judged("twelve entries, each used ahead of its telling", x, 4, 0, 1);
        for (int e = 0; e < 11; e++) {
            x.move(11, e);
        }
        judged("the other way round", x, 4, 0, 12);
        x.set(2, 12, 1);
        judged("and its first word known", x, 0, NONE, NONE);
        x.drop(11);
        x.entry(12, 11, NONE, NONE);
        judged("the twelfth has a fault", x, 2, 11, 11);
        NoWordTwice full = Worlds.wordsAndLaw(16, "fix;");
        full.set(0, 0, 3);
        for (int w = 0; w < 16; w++) {
            full.set(2, w, 1);
            full.entry(w, (w + 1) % 16, (w + 2) % 16, (w + 3) % 16);
        }
        due("twelve entries", full.look(1), 12);
        judged("twelve entries of three words each", full, 0, NONE, NONE);
        full.set(2, 14, 0);
        judged("the last one's last word is not known", full, 4, 11, 14);
    }

    private void firstFaultOfAnEntry() {
        sentence(16, "FAULT of THE DICTIONARY, ENTRY by ENTRY, in each the first of these");
        String law = "loose when head=0 and many=3;loose when head=3;fix;";
        NoWordTwice x = Worlds.wordsAndLaw(6, law);
        x.set(2, 1, 1);
        x.entry(0, 1, NONE, NONE);
        x.entry(0, 2, 1, 4);
        judged("all four", x, 1, 1, NONE);
        x.drop(1);
        x.entry(3, 2, 1, NONE);
        judged("all but the first", x, 2, 1, 1);
        x.set(0, 0, 2);
        judged("the third and the fourth", x, 3, 1, NONE);
        x.entry(0, 2, 1, 4);
        judged("the first ENTRY comes ahead of the lesser fault", x, 3, 1, NONE);
        Check.law(x, "fix;");
        judged("the fourth", x, 4, 1, 2);
        x.set(2, 2, 1);
        judged("none there, so the next entry's", x, 1, 2, NONE);
    }

    private void headOfAnEarlierEntry() {
        sentence(16, "1 its HEAD is that of an earlier ENTRY");
        NoWordTwice x = Worlds.chain("fix;");
        x.set(2, 12, 1);
        for (int e = 0; e < 11; e++) {
            x.move(11, e);
        }
        x.drop(11);
        x.set(0, 0, 3);
        x.entry(11, 12, NONE, NONE);
        judged("that of the first, in the twelfth", x, 1, 11, NONE);
        NoWordTwice y = Worlds.wordsAndLaw(2, "fix;");
        y.set(2, 1, 1);
        y.set(0, 0, 3);
        y.entry(0, 1, NONE, NONE);
        judged("no earlier one", y, 0, NONE, NONE);
        y.entry(0, 1, NONE, NONE);
        judged("an earlier one", y, 1, 1, NONE);
    }

    private void usedSoOften() {
        sentence(16, "2 a WORD that it USES was USED so often ahead of it already as LIMIT says "
                + "(told: that WORD, by its row)");
        for (int limit = 1; limit <= 3; limit++) {
            for (int word : new int[] {0, 15}) {
                NoWordTwice x = Worlds.wordsAndLaw(16, "fix;");
                x.set(0, 0, limit);
                x.set(2, word, 1);
                for (int e = 0; e < limit; e++) {
                    x.entry(1 + e, word, NONE, NONE);
                }
                judged("so often as LIMIT " + limit, x, 0, NONE, NONE);
                x.entry(5, word, NONE, NONE);
                judged("once more than LIMIT " + limit, x, 2, limit, word);
            }
        }
        NoWordTwice x = Worlds.wordsAndLaw(6, "fix;");
        x.set(2, 3, 1);
        x.set(2, 4, 1);
        x.set(2, 5, 1);
        x.entry(0, 3, 4, NONE);
        x.entry(1, 5, 4, 3);
        judged("of two the first by its row", x, 2, 1, 4);
        x.move(1, 0);
        judged("ahead of it, not behind it", x, 2, 1, 3);
    }

    private void doNotFix() {
        sentence(16, "3 its USED WORDS do not FIX its HEAD");
        NoWordTwice x = Worlds.words(3);
        x.set(2, 1, 1);
        x.entry(0, 1, NONE, NONE);
        judged("without a law", x, 3, 0, NONE);
        Check.law(x, "fix when many=1;");
        judged("they do", x, 0, NONE, NONE);
        Check.law(x, "fix when many=2;");
        judged("they do not", x, 3, 0, NONE);
    }

    private void notKnown() {
        sentence(16, "4 a WORD that it USES is not KNOWN, and not the HEAD of an earlier ENTRY (told: that WORD).");
        NoWordTwice x = Worlds.wordsAndLaw(5, "fix;");
        x.set(0, 0, 3);
        x.entry(4, 3, 0, 2);
        judged("none is known: the first by its row", x, 4, 0, 3);
        x.set(2, 3, 1);
        judged("the second", x, 4, 0, 0);
        x.set(2, 0, 1);
        judged("the third", x, 4, 0, 2);
        x.entry(2, 3, NONE, NONE);
        judged("the head of a later one is not enough", x, 4, 0, 2);
        x.move(1, 0);
        judged("that of an earlier one is", x, 0, NONE, NONE);
        x.entry(1, 4, NONE, NONE);
        judged("so is a head that is not known", x, 0, NONE, NONE);
        x.set(2, 3, 0);
        judged("no more known", x, 4, 0, 3);
        NoWordTwice y = Worlds.wordsAndLaw(16, "fix;");
        y.set(0, 0, 3);
        for (int e = 0; e < 12; e++) {
            y.entry(e, 15 - e % 4, 15 - (e + 1) % 4, e == 11 ? 10 : 15 - (e + 2) % 4);
        }
        for (int w = 12; w < 16; w++) {
            y.set(2, w, 1);
        }
        judged("four words for twelve entries of three", y, 2, 4, 15);
        y.drop(4);
        y.entry(4, 3, 2, 0);
        for (int e = 4; e < 11; e++) {
            y.drop(4);
        }
        judged("known words in four, and heads in the fifth", y, 0, NONE, NONE);
        y.entry(6, 5, NONE, NONE);
        judged("the fifth's three are told, the sixth's one is not", y, 4, 5, 5);
    }

    private void judgeOfAnotherWhat() {
        sentence(16, "NONE for another what.");
        for (int what : new int[] {-1, 3, 4, MIN, MAX}) {
            leaves("judge(" + what + ")", Worlds.chain("fix;"), NONE, x -> x.judge(what));
            due("judge(" + what + ") of a new object", new NoWordTwice().judge(what), NONE);
        }
    }

    private void learnt() {
        sentence(17, "LEARNT by a set what 0 the set, 1 the rounds.");
        NoWordTwice x = Worlds.chain("fix;");
        due("nothing by nothing", x.learnt(0, 0), 0);
        due("no round", x.learnt(0, 1), 0);
        due("all by the last", x.learnt(1 << 12, 0), 8191);
        due("a round each", x.learnt(1 << 12, 1), 12);
        due("all that there are", x.learnt(8191, 0), 8191);
        due("nothing comes any more", x.learnt(8191, 1), 0);
        due("nothing comes by the first", x.learnt(1, 0), 1);
        due("no round by the first", x.learnt(1, 1), 0);
        NoWordTwice all = Worlds.words(16);
        due("sixteen words", all.learnt(0xffff, 0), 0xffff);
        NoWordTwice none = new NoWordTwice();
        due("without words", none.learnt(0, 0), 0);
        due("without words, rounds", none.learnt(0, 1), 0);
    }

    private void learntRoundByRound() {
        sentence(17, "LEARNT by a set of WORDS that a reader knows: round by round, by what he knew ahead of it");
        NoWordTwice x = Worlds.wordsAndLaw(13, "fix;");
        for (int e = 0; e < 12; e++) {
            x.entry(e + 1, e, NONE, NONE);
        }
        due("one in each round, though the entries stand so", x.learnt(1, 1), 12);
        due("one round fewer", x.learnt(2, 1), 11);
        sentence(17, "each HEAD of an ENTRY whose USED WORDS he all knows and which is FIXED by them");
        NoWordTwice y = Worlds.wordsAndLaw(6, "loose when head=5;fix when many<3;");
        y.entry(3, 0, 1, NONE);
        y.entry(4, 0, 1, 2);
        y.entry(5, 0, NONE, NONE);
        y.entry(2, 3, NONE, NONE);
        due("one of two is not all", y.learnt(1, 0), 1);
        due("two of two; one that is not fixed does not come", y.learnt(3, 0), 15);
        due("its rounds", y.learnt(3, 1), 2);
        y.entry(4, 3, NONE, NONE);
        due("another entry of that head", y.learnt(3, 0), 31);
        due("in the same round", y.learnt(3, 1), 2);
        y.set(2, 0, 1);
        y.set(2, 1, 1);
        due("what is KNOWN he does not know by that", y.learnt(0, 0), 0);
        due("a head that he knows", y.learnt(32, 0), 32);
        sentence(17, "what he knows behind all, and behind how many rounds nothing came any more "
                + "(that round not counted).");
        due("all but one that no entry fixes", y.learnt(11, 0), 31);
        due("the heads that came are counted by rounds", y.learnt(11, 1), 1);
        due("he knows what would come", y.learnt(31, 1), 0);
    }

    private void learntThatCannotBe() {
        sentence(17, "NONE if one can't be, or another what.");
        for (int set : new int[] {64, 65, 127, 1 << 16, 1 << 30, MAX, -1, MIN}) {
            leaves("learnt(" + set + ", 0)", NONE, x -> x.learnt(set, 0));
            due("learnt(" + set + ", 1)", Worlds.busy().learnt(set, 1), NONE);
        }
        due("learnt(63, 0): all words there are", Worlds.busy().learnt(63, 0), 63);
        for (int what : new int[] {-1, 2, 3, MIN, MAX}) {
            leaves("learnt(1, " + what + ")", NONE, x -> x.learnt(1, what));
        }
        due("learnt(65536, 0) of sixteen", Worlds.words(16).learnt(65536, 0), NONE);
        due("learnt(1, 0) without words", new NoWordTwice().learnt(1, 0), NONE);
    }

    private void order() {
        sentence(18, "ORDER: the i-th ENTRY");
        NoWordTwice x = Worlds.chain("fix;");
        x.set(2, 12, 1);
        for (int i = 0; i < 12; i++) {
            due("order(" + i + ") of twelve", x.order(i), 11 - i);
        }
        due("order(12) of twelve", x.order(12), NONE);
        sentence(18, "ORDER of ENTRIES: always the first one left whose USED WORDS are all KNOWN or HEADS of ENTRIES "
                + "that are there already (FIXED or not)");
        Check.law(x, "");
        due("fixed or not", x.order(11), 0);
        NoWordTwice y = Worlds.words(6);
        y.set(2, 0, 1);
        y.entry(3, 2, NONE, NONE);
        y.entry(2, 1, 0, NONE);
        y.entry(1, 0, NONE, NONE);
        y.entry(5, 0, NONE, NONE);
        y.entry(4, 0, 5, NONE);
        int[] want = {2, 1, 0, 3, 4, NONE};
        for (int i = 0; i < want.length; i++) {
            due("from the first again, order(" + i + ")", y.order(i), want[i]);
        }
        y.set(2, 2, 1);
        due("a known head's entry stands in the order, too", y.order(0), 0);
        due("behind it", y.order(1), 2);
        y.set(2, 0, 0);
        y.set(2, 2, 0);
        due("nothing is known", y.order(0), NONE);
        y.set(2, 3, 1);
        due("a known head does not make its entry ready", y.order(0), NONE);
    }

    private void orderOfNone() {
        sentence(18, "NONE if there is none such.");
        for (int i : new int[] {-1, 12, 13, 31, 32, MIN, MAX}) {
            NoWordTwice x = Worlds.chain("fix;");
            x.set(2, 12, 1);
            leaves("order(" + i + ")", x, NONE, y -> y.order(i));
        }
        due("without entries", Worlds.words(3).order(0), NONE);
        NoWordTwice some = Worlds.chain("fix;");
        some.set(2, 6, 1);
        due("the last of six", some.order(5), 0);
        due("the rest is a ring", some.order(6), NONE);
    }

    private void ring() {
        sentence(19, "RING, as a set.");
        due("of a new object", new NoWordTwice().ring(), 0);
        due("without entries", Worlds.words(16).ring(), 0);
        NoWordTwice x = Worlds.chain("");
        due("all twelve", x.ring(), 4095);
        sentence(19, "RING: the ENTRIES that are left then.");
        x.set(2, 6, 1);
        due("all but six", x.ring(), 4095 & ~63);
        x.set(2, 12, 1);
        due("none", x.ring(), 0);
        x.set(2, 6, 0);
        due("none yet", x.ring(), 0);
        x.drop(11);
        due("without the last nothing comes", x.ring(), 2047);
        x.entry(0, 11, NONE, NONE);
        due("two entries of one head are both left", x.ring(), 4095);
        x.set(2, 1, 1);
        due("one of them comes alone", x.ring(), 4094);
    }
}
