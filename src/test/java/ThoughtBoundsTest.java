/** The bounds of what is sought in thought: CUT, LEAST, MOST, WORN and TRADE (promises 20 to 24). */
public final class ThoughtBoundsTest extends BoundsCase {
    public static void main(String[] args) {
        ThoughtBoundsTest test = new ThoughtBoundsTest();
        test.cut();
        test.cutIsTheFewest();
        test.cutIsTheLeastOfSeveral();
        test.least();
        test.leastIsTheFewest();
        test.leastOfSeveral();
        test.mostHeads();
        test.mostOfSeveralWays();
        test.oneOrTwoWords();
        test.noWordInMoreThanM();
        test.ringsDoNotMatter();
        test.mostOfSevenWords();
        test.mostThatCannotBe();
        test.worn();
        test.wornNotOftenerThanLimit();
        test.wornOfNone();
        test.trade();
        test.tradeLeavesRows();
        test.tradeWhereNotBothDid();
        test.firstTrade();
        test.tradeOfNone();
        test.finish();
    }

    /** Words 0 and 1 are told by 3, and 3 by both: {3} cuts the rings, and so does {0, 1}. */
    private static NoWordTwice oneForTwo(String law) {
        NoWordTwice x = Worlds.wordsAndLaw(4, law);
        x.entry(0, 3, NONE, NONE);
        x.entry(1, 3, NONE, NONE);
        x.entry(3, 0, 1, NONE);
        return x;
    }

    /** Word 0 is told by all others: five entries, three words in each. */
    private static NoWordTwice oneByAll() {
        NoWordTwice x = Worlds.wordsAndLaw(16, "fix;");
        for (int e = 0; e < 5; e++) {
            x.entry(0, 3 * e + 1, 3 * e + 2, 3 * e + 3);
        }
        return x;
    }

    private static NoWordTwice pairOfTwo() {
        NoWordTwice x = Worlds.wordsAndLaw(4, "fix;");
        x.entry(3, 2, NONE, NONE);
        x.entry(2, 3, NONE, NONE);
        return x;
    }

    private void cut() {
        sentence(20, "CUT, as a set.");
        due("of a new object", new NoWordTwice().cut(), 0);
        due("without entries", Worlds.words(16).cut(), 0);
        due("a chain", Worlds.chain("").cut(), 1 << 12);
        due("fifteen words", oneByAll().cut(), 0xfffe);
        NoWordTwice x = Worlds.words(16);
        x.entry(0, 15, NONE, NONE);
        due("the last word", x.cut(), 1 << 15);
        x.set(2, 15, 1);
        due("no ring", x.cut(), 0);
    }

    private void cutIsTheFewest() {
        sentence(20, "CUT: the fewest WORDS that, if they were KNOWN, too, would leave no RING");
        due("one word, though two make a lesser set", oneForTwo("").cut(), 8);
        due("fixed or not", oneForTwo("fix;").cut(), 8);
        NoWordTwice x = oneForTwo("");
        x.set(2, 0, 1);
        due("of those that are not known: 1 alone", x.cut(), 2);
        x.set(2, 1, 1);
        due("enough are known", x.cut(), 0);
        NoWordTwice known = oneByAll();
        for (int w = 1; w < 16; w++) {
            due("known ones are not in it", known.cut(), 0xffff & -(1 << w));
            known.set(2, w, 1);
        }
        due("all are known", known.cut(), 0);
        NoWordTwice head = Worlds.words(3);
        head.entry(0, 1, NONE, NONE);
        head.set(2, 0, 1);
        due("a known head leaves its entry", head.cut(), 2);
    }

    private void cutIsTheLeastOfSeveral() {
        sentence(20, "would leave no RING; of several the least set.");
        due("of two words the lesser one", pairOfTwo().cut(), 4);
        NoWordTwice x = Worlds.words(12);
        for (int e = 0; e < 12; e++) {
            x.entry(e, e ^ 1, NONE, NONE);
        }
        due("six rings", x.cut(), 0x555);
        NoWordTwice round = Worlds.words(16);
        for (int e = 0; e < 12; e++) {
            round.entry(4 + e, 4 + (e + 1) % 12, NONE, NONE);
        }
        due("a ring of twelve", round.cut(), 16);
    }

    private void least() {
        sentence(21, "LEAST, as a set.");
        due("of a new object", new NoWordTwice().least(), 0);
        due("without entries", Worlds.words(16).least(), 0);
        due("a chain", Worlds.chain("fix;").least(), 1 << 11);
        NoWordTwice x = Worlds.words(16);
        x.entry(15, 0, NONE, NONE);
        due("the last word", x.least(), 1 << 15);
        Check.law(x, "fix;");
        due("the first, which is a lesser set", x.least(), 1);
    }

    private void leastIsTheFewest() {
        sentence(21, "LEAST: the fewest WORDS of a reader by which he would have LEARNT all HEADS");
        due("one word, though two make a lesser set", oneForTwo("fix;").least(), 8);
        NoWordTwice x = oneForTwo("fix;");
        x.set(2, 3, 1);
        x.set(2, 0, 1);
        due("what is KNOWN does not matter", x.least(), 8);
        due("a head told by any of its entries", oneByAll().least(), 1);
        NoWordTwice loose = oneForTwo("loose when head=1;fix;");
        due("what is not fixed can't come", loose.least(), 3);
        NoWordTwice not = Worlds.wordsAndLaw(3, "fix;");
        not.entry(0, 1, 2, NONE);
        due("a head that he knows himself", not.least(), 1);
    }

    private void leastOfSeveral() {
        sentence(21, "all HEADS; of several the least set (what he knows he has LEARNT).");
        due("of two words the lesser one", pairOfTwo().least(), 4);
        due("without a law he knows all heads", Worlds.chain("").least(), 4095);
        due("without a law, two heads", headsWithoutLaw(), 1 << 2 | 1 << 3);
        NoWordTwice x = Worlds.wordsAndLaw(12, "fix;");
        for (int e = 0; e < 12; e++) {
            x.entry(e, e ^ 1, NONE, NONE);
        }
        due("six rings", x.least(), 0x555);
    }

    private static int headsWithoutLaw() {
        NoWordTwice x = pairOfTwo();
        x.text();
        return x.least();
    }

    private void most(String call, NoWordTwice x, int m, int told, int... sets) {
        due(call + ": most(" + m + ", 0)", x.most(m, 0), told);
        for (int h = 0; h < sets.length; h++) {
            due(call + ": most(" + m + ", " + (10 + h) + ")", x.most(m, 10 + h), sets[h]);
        }
        due(call + ": no head more", x.most(m, 10 + sets.length), NONE);
    }

    private void mostHeads() {
        sentence(22, "MOST with LIMIT m what 0 how many, 10 + h the set of HEAD h (0: none).");
        most("a new object", new NoWordTwice(), 1, 0);
        most("one word", Worlds.wordsAndLaw(1, "fix;"), 3, 0, 0);
        most("without a law", Worlds.words(7), 3, 0, 0, 0, 0, 0, 0, 0, 0);
        NoWordTwice x = Worlds.wordsAndLaw(7, "fix when many=1;");
        most("single words", x, 1, 7, 2, 1, 8, 4, 32, 64, 16);
        most("single words", x, 2, 7, 2, 1, 1, 2, 4, 4, 8);
        most("single words", x, 3, 7, 2, 1, 1, 1, 2, 2, 4);
        x.set(0, 0, 3);
        x.set(2, 0, 1);
        x.entry(0, 3, NONE, NONE);
        most("LIMIT, KNOWN and ENTRIES do not matter", x, 1, 7, 2, 1, 8, 4, 32, 64, 16);
        Check.law(x, "fix when many=2;");
        most("another law", x, 1, 3, 0, 0, 0, 0, 3, 12, 48);
        Check.law(x, "fix when many=1;");
        most("the law that was", x, 1, 7, 2, 1, 8, 4, 32, 64, 16);
        Check.law(x, "fix when common>0;");
        most("words without common marks", x, 1, 0, 0, 0, 0, 0, 0, 0, 0);
        x.set(3, 0, 64);
        most("two of common marks", x, 1, 2, 64, 0, 0, 0, 0, 0, 1);
        x.set(3, 5, 64);
        most("three of common marks", x, 1, 3, 32, 0, 0, 0, 0, 64, 1);
    }

    private void mostOfSeveralWays() {
        sentence(22, "the most HEADS told; the sets: of several ways that by which HEAD 0 has the least set "
                + "(none ahead of all), then HEAD 1 ..");
        NoWordTwice pairs = Worlds.wordsAndLaw(7, "fix when many=2;");
        most("three pairs, none ahead of all", pairs, 1, 3, 0, 0, 0, 0, 3, 12, 48);
        most("two uses each", pairs, 2, 7, 6, 5, 3, 48, 72, 72, 48);
        NoWordTwice x = new NoWordTwice();
        x.word(1);
        x.word(2);
        x.word(12);
        x.word(16);
        Check.law(x, "fix when head=3 and more=2;");
        most("two words may be a lesser set than one", x, 1, 1, 0, 0, 0, 3);
        Check.law(x, "fix when head=3 and more>1;");
        most("the least of several pairs", x, 3, 1, 0, 0, 0, 3);
    }

    private void oneOrTwoWords() {
        sentence(22, "a set of one or two WORDS for each HEAD, or none, not with itself, that FIXES it");
        most("three words are none such", Worlds.wordsAndLaw(7, "fix when many=3;"), 3, 0, 0, 0, 0, 0, 0, 0, 0);
        most("none is none such", Worlds.wordsAndLaw(3, "fix when many=0;"), 3, 0, 0, 0, 0);
        most("one", Worlds.wordsAndLaw(3, "fix when many=1;"), 3, 3, 2, 1, 1);
        most("two", Worlds.wordsAndLaw(3, "fix when many=2;"), 3, 3, 6, 5, 3);
        most("two of two words, one is the head", Worlds.wordsAndLaw(2, "fix when many=2;"), 3, 0, 0, 0);
        most("not one", Worlds.wordsAndLaw(3, "fix when not many=1;"), 3, 3, 6, 5, 3);
        NoWordTwice either = new NoWordTwice();
        for (int marks : new int[] {1, 6, 2, 64, 128 | 256 | 512}) {
            either.word(marks);
        }
        Check.law(either, "fix when head=3 and more=2;fix when head=4 and more=2 and many=1;");
        most("two, so that one is left for another head", either, 1, 2, 0, 0, 0, 5, 2);
        most("one for both heads", either, 2, 2, 0, 0, 0, 2, 2);
        NoWordTwice x = Worlds.wordsAndLaw(3, "fix when common>0;");
        most("not with itself", x, 3, 0, 0, 0, 0);
        x.set(3, 2, 1);
        most("with one alike", x, 3, 2, 4, 0, 1);
    }

    private void noWordInMoreThanM() {
        sentence(22, "so that no WORD is in more than m of them");
        NoWordTwice x = new NoWordTwice();
        for (int i = 0; i < 6; i++) {
            x.word(1);
        }
        x.word(2);
        Check.law(x, "fix when more=1 and many=1 and head<6;");
        most("one word for six heads", x, 1, 1, 0, 0, 0, 0, 0, 64, 0);
        most("one word for six heads", x, 2, 2, 0, 0, 0, 0, 64, 64, 0);
        most("one word for six heads", x, 3, 3, 0, 0, 0, 64, 64, 64, 0);
        sentence(22, "MOST with a LIMIT m (1 .. 3)");
        for (int m : new int[] {0, -1, 4, MIN, MAX}) {
            due("most(" + m + ", 0)", x.most(m, 0), NONE);
            due("most(" + m + ", 10)", x.most(m, 10), NONE);
        }
    }

    private void ringsDoNotMatter() {
        sentence(22, "(rings do not matter)");
        NoWordTwice x = Worlds.wordsAndLaw(2, "fix;");
        most("each by the other", x, 1, 2, 2, 1);
        most("each by the other", x, 3, 2, 2, 1);
    }

    private void mostOfSevenWords() {
        sentence(22, "of 7 WORDS at most");
        due("seven words", Worlds.wordsAndLaw(7, "fix;").most(1, 0), 7);
        due("seven words, the last head", Worlds.wordsAndLaw(7, "fix;").most(1, 16), 16);
        sentence(22, "NONE if one can't be (more than 7 WORDS)");
        for (int words : new int[] {8, 9, 16}) {
            for (int what : new int[] {0, 10, 16, 17, 25}) {
                leaves("most(1, " + what + ") of " + words, Worlds.wordsAndLaw(words, "fix;"), NONE,
                        x -> x.most(1, what));
            }
        }
    }

    private void mostThatCannotBe() {
        sentence(22, "NONE if one can't be (more than 7 WORDS), or another what.");
        for (int what : new int[] {-1, 1, 2, 9, 16, 17, 26, MIN, MIN + 10, MAX}) {
            leaves("most(1, " + what + ") of six", NONE, x -> x.most(1, what));
        }
        due("most(1, 15) of six", Worlds.busy().most(1, 15), 0);
        for (int m : new int[] {0, 4, MIN, MAX}) {
            leaves("most(" + m + ", 0)", NONE, x -> x.most(m, 0));
        }
    }

    private void worn() {
        sentence(23, "WORN, as a set");
        NoWordTwice x = Worlds.wordsAndLaw(16, "fix;");
        x.entry(0, 15, NONE, NONE);
        due("any but the head", x.worn(0, 0), 0xfffe);
        x.entry(7, 1, 2, 3);
        due("of the first", x.worn(0, 0), 0xfff0);
        Check.law(x, "");
        due("without a law", x.worn(0, 0), 0);
        sentence(23, "WORN: of an ENTRY the i-th USED WORD can't be read: the set of WORDS "
                + "(not its HEAD, not its others) that, there, would FIX it");
        Check.law(x, "fix;");
        due("the first of three", x.worn(1, 0), 0x7f73);
        due("the second of three", x.worn(1, 1), 0x7f75);
        due("the third of three", x.worn(1, 2), 0x7f79);
        Check.law(x, "fix when more=3 and lack=0;");
        x.set(3, 12, 128 | 256);
        due("those alone that would fix it", x.worn(1, 0), 1 << 12);
    }

    private void wornNotOftenerThanLimit() {
        sentence(23, "and would not be USED oftener than LIMIT.");
        for (int limit = 1; limit <= 3; limit++) {
            NoWordTwice x = Worlds.wordsAndLaw(8, "fix;");
            x.set(0, 0, limit);
            x.entry(0, 1, NONE, NONE);
            for (int used = 0; used < limit; used++) {
                due("LIMIT " + limit + ", used " + used + " times elsewhere", x.worn(0, 0) >> 5 & 1, 1);
                x.entry(6, 5, NONE, NONE);
            }
            due("LIMIT " + limit + ", used so often elsewhere", x.worn(0, 0), 0xfe & ~(1 << 5));
            for (int used = 1; used < limit; used++) {
                x.entry(6, 1, NONE, NONE);
            }
            due("LIMIT " + limit + ", it itself used once less elsewhere", x.worn(0, 0) >> 1 & 1, 1);
            x.entry(6, 1, NONE, NONE);
            due("LIMIT " + limit + ", it itself used so often elsewhere", x.worn(0, 0) >> 1 & 1, 0);
        }
    }

    private void wornOfNone() {
        sentence(23, "NONE if there is none such.");
        for (int entry : new int[] {-1, 3, 4, 12, MIN, MAX}) {
            leaves("worn(" + entry + ", 0)", NONE, x -> x.worn(entry, 0));
        }
        for (int i : new int[] {-1, 3, 4, 10, MIN, MAX}) {
            leaves("worn(0, " + i + ") of three", NONE, x -> x.worn(0, i));
        }
        due("worn(0, 2) of three", Worlds.busy().worn(0, 2) != NONE, true);
        due("worn(1, 1) of one", Worlds.busy().worn(1, 1), NONE);
        due("worn(2, 2) of two", Worlds.busy().worn(2, 2), NONE);
        due("worn(0, 0) without entries", Worlds.words(3).worn(0, 0), NONE);
        due("worn(12, 0) of twelve", Worlds.chain("fix;").worn(12, 0), NONE);
        due("worn(11, 0) of twelve", Worlds.chain("fix;").worn(11, 0), 1 << 12 | 1);
    }

    private static NoWordTwice marked(int... marks) {
        NoWordTwice x = new NoWordTwice();
        for (int m : marks) {
            x.word(m);
        }
        Check.law(x, "fix when lack=0;");
        return x;
    }

    private void trades(String call, NoWordTwice x, int count, int... first) {
        due(call + ": trade(0)", x.trade(0), count);
        for (int i = 0; i < 4; i++) {
            due(call + ": trade(" + (i + 1) + ")", x.trade(i + 1), first.length == 0 ? NONE : first[i]);
        }
    }

    private void trade() {
        sentence(24, "TRADE what 0 how many, 1, 2 the ENTRIES, 3, 4 the places of their WORDS of the first (NONE).");
        trades("a new object", new NoWordTwice(), 0);
        NoWordTwice x = marked(1, 2, 1, 2);
        trades("without entries", x, 0);
        x.entry(0, 3, NONE, NONE);
        trades("one entry", x, 0);
        x.entry(1, 2, NONE, NONE);
        trades("two entries", x, 1, 0, 1, 0, 0);
        for (int i = 0; i < 10; i++) {
            x.entry(2, 1, NONE, NONE);
            x.move(x.look(1) - 1, i);
        }
        // The ten trade nothing: the only word that would fix their head, and that another uses, is that head itself.
        trades("the eleventh and the twelfth", x, 1, 10, 11, 0, 0);
    }

    private void tradeLeavesRows() {
        sentence(24, "TRADE: couples of ENTRIES (the earlier first), each with a USED WORD, "
                + "that could be changed for one another, so that both are such rows still");
        NoWordTwice head = marked(1, 3, 1);
        head.entry(0, 1, NONE, NONE);
        head.entry(1, 2, NONE, NONE);
        trades("a word can't come to itself as the head", head, 0);
        NoWordTwice back = marked(3, 1, 1);
        back.entry(1, 2, NONE, NONE);
        back.entry(0, 1, NONE, NONE);
        trades("nor the earlier one's head to it", back, 0);
        NoWordTwice twice = marked(1, 2, 1, 2);
        twice.entry(0, 3, NONE, NONE);
        twice.entry(1, 2, 3, NONE);
        trades("nor a word that stands there already", twice, 0);
        NoWordTwice three = marked(1, 2, 1, 2, 4);
        three.entry(0, 3, NONE, NONE);
        three.entry(1, 2, 4, NONE);
        trades("another word stands there", three, 1, 0, 1, 0, 0);
        NoWordTwice first = marked(1, 2, 1, 2, 4);
        first.entry(1, 4, 2, NONE);
        first.entry(0, 3, NONE, NONE);
        trades("the other way round", first, 1, 0, 1, 1, 0);
    }

    private void tradeWhereNotBothDid() {
        sentence(24, "so that both are such rows still and both FIX their HEADS where not both did: how many");
        NoWordTwice x = marked(1, 2, 1, 2, 4);
        x.entry(0, 2, NONE, NONE);
        x.entry(1, 3, NONE, NONE);
        trades("both did", x, 0);
        Check.law(x, "fix;");
        trades("both did, and would", x, 0);
        NoWordTwice one = marked(1, 2, 1, 2, 4);
        one.entry(0, 4, NONE, NONE);
        one.entry(1, 3, 2, NONE);
        trades("one did, both would", one, 1, 0, 1, 0, 1);
        NoWordTwice later = marked(1, 2, 1, 2, 4);
        later.entry(1, 3, 2, NONE);
        later.entry(0, 4, NONE, NONE);
        trades("the earlier one did, both would", later, 1, 0, 1, 1, 0);
        NoWordTwice behind = marked(1, 2, 1, 2, 4);
        behind.entry(4, 3, NONE, NONE);
        behind.entry(0, 4, NONE, NONE);
        behind.entry(1, 3, 2, NONE);
        trades("the latest did, both would", behind, 1, 1, 2, 0, 1);
        Check.law(behind, "fix;");
        trades("all do", behind, 0);
        Check.law(behind, "fix when lack=0;");
        trades("not all do any more", behind, 1, 1, 2, 0, 1);
        NoWordTwice none = marked(1, 2, 1, 8);
        none.entry(0, 3, NONE, NONE);
        none.entry(1, 2, NONE, NONE);
        trades("one would, not both", none, 0);
        none.text();
        trades("without a law", none, 0);
    }

    private void firstTrade() {
        sentence(24, "how many; the first (ENTRIES, then the places of the WORDS).");
        NoWordTwice places = marked(4, 3, 2, 1, 5, 6);
        places.entry(0, 2, 3, NONE);
        places.entry(1, 4, 5, NONE);
        // Word 2 for 5, or word 3 for 4: of those the earlier entry's first place comes first.
        trades("places", places, 2, 0, 1, 0, 1);
        NoWordTwice entries = marked(1, 4, 8, 2, 2, 8, 4, 1);
        for (int e = 0; e < 4; e++) {
            entries.entry(e, 4 + e, NONE, NONE);
        }
        trades("entries", entries, 2, 0, 3, 0, 0);
        NoWordTwice all = marked(1, 2, 2, 2, 2, 1, 1, 1);
        all.entry(0, 2, 3, 4);
        all.entry(1, 5, 6, 7);
        trades("three places with three", all, 9, 0, 1, 0, 0);
    }

    private void tradeOfNone() {
        sentence(24, "NONE for another what.");
        for (int what : new int[] {-1, 5, 6, 10, MIN, MAX}) {
            NoWordTwice x = marked(1, 2, 1, 2);
            x.entry(0, 3, NONE, NONE);
            x.entry(1, 2, NONE, NONE);
            leaves("trade(" + what + ")", x, NONE, y -> y.trade(what));
            due("trade(" + what + ") of a new object", new NoWordTwice().trade(what), NONE);
        }
    }
}
