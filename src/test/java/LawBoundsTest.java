/** The bounds of texts: the tape, the law that is read from it, its faults, and what it answers (promises 8 to 11). */
public final class LawBoundsTest extends BoundsCase {
    private static final int BLANKS = 0x20202020;
    private static final int FIX = 0x6669783b;

    public static void main(String[] args) {
        LawBoundsTest test = new LawBoundsTest();
        test.twentyBytes();
        test.highestByteFirst();
        test.moreThan400();
        test.end();
        test.endThatCannotBe();
        test.lawIsTheTape();
        test.lawStaysAtAFault();
        test.linesOfALaw();
        test.conditions();
        test.sums();
        test.units();
        test.letters();
        test.digits();
        test.signs();
        test.blanks();
        test.intsWrap();
        test.partsGoTowardsZero();
        test.firstFaultByPlace();
        test.leastFaultAtOnePlace();
        test.whatCannotStand();
        test.endOfTheText();
        test.partByZero();
        test.seventeenthLine();
        test.ninthOpen();
        test.faultOfTheLatestText();
        test.faultOfAnotherWhat();
        test.finish();
    }

    private void twentyBytes() {
        sentence(8, "Twenty bytes come behind the TAPE");
        NoWordTwice x = new NoWordTwice();
        for (int i = 1; i <= 20; i++) {
            due("feed " + i, x.feed(BLANKS, BLANKS, BLANKS, BLANKS, BLANKS), 20 * i);
        }
        due("end(400)", x.end(400), true);
        NoWordTwice y = new NoWordTwice();
        y.feed(FIX, BLANKS, BLANKS, BLANKS, BLANKS);
        y.end(3);
        due("feed behind three", y.feed(BLANKS, BLANKS, BLANKS, BLANKS, 0x2020203b), 23);
        due("what comes is behind what stood", y.text(), 1);
        sentence(8, "how many it has.");
        due("feed to an empty tape", y.feed(0, 0, 0, 0, 0), 20);
        y.end(1);
        due("feed behind one", y.feed(0, 0, 0, 0, 0), 21);
    }

    private void highestByteFirst() {
        sentence(8, "of each number the highest first");
        NoWordTwice x = new NoWordTwice();
        // "fix when 1>0;loose;" and a blank: any other order of the bytes is no text.
        x.feed(0x66697820, 0x7768656e, 0x20313e30, 0x3b6c6f6f, 0x73653b20);
        due("text()", x.text(), 2);
        for (int place = 0; place < 20; place++) {
            int[] five = {BLANKS, BLANKS, BLANKS, BLANKS, BLANKS};
            five[place / 4] ^= (0x20 ^ 0xff) << 24 - place % 4 * 8;
            x.feed(five[0], five[1], five[2], five[3], five[4]);
            due("a byte 255 at " + place + ": text()", x.text(), NONE);
            due("a byte 255 at " + place + ": fault(1)", x.fault(1), place);
        }
    }

    private void moreThan400() {
        sentence(8, "NONE, and nothing comes, if there would be more than 400.");
        NoWordTwice x = fullTape();
        due("feed to 400", x.feed(1, 1, 1, 1, 1), NONE);
        due("end(400)", x.end(400), true);
        due("end(401)", x.end(401), false);
        due("text(): the tape is as it was", x.text(), 0);
        NoWordTwice y = fullTape();
        y.end(381);
        due("feed to 381", y.feed(1, 1, 1, 1, 1), NONE);
        due("end(382): not one byte came", y.end(382), false);
        due("end(381)", y.end(381), true);
        due("text(): the tape is as it was", y.text(), 0);
        NoWordTwice z = fullTape();
        z.end(380);
        due("feed to 380", z.feed(BLANKS, BLANKS, BLANKS, BLANKS, FIX), 400);
        due("text()", z.text(), 1);
        due("look(8) stays", z.look(8), 0);
        leaves("feed to a full tape", fullTape(), NONE, w -> w.feed(FIX, FIX, FIX, FIX, FIX));
    }

    private void end() {
        sentence(9, "The TAPE has its first n bytes alone: true");
        NoWordTwice x = fixes();
        due("end(20): all of it", x.end(20), true);
        due("end(19)", x.end(19), true);
        due("text(): the last line lost its end", x.text(), NONE);
        due("fault(1)", x.fault(1), 19);
        NoWordTwice y = fixes();
        due("end(8)", y.end(8), true);
        due("end(8) again", y.end(8), true);
        due("end(9): what was cut does not come back", y.end(9), false);
        due("text(): the first ones alone", y.text(), 2);
        NoWordTwice z = fixes();
        due("end(0)", z.end(0), true);
        due("end(0) of an empty tape", z.end(0), true);
        due("end(1) of an empty tape", z.end(1), false);
        due("text() of none", z.text(), 0);
        due("end(0) of a new object", new NoWordTwice().end(0), true);
        cutShort("fix when 1=12345", 15, 15);
        cutShort("fix when 1=1;x", 13, NONE);
        cutShort("fix when 1=1;1", 13, NONE);
        cutShort("fix;loosely", 9, 9);
        cutShort("fixes", 3, 3);
    }

    /** A text that is cut off ahead of some of its bytes is read as if they had never come. */
    private void cutShort(String text, int length, int place) {
        NoWordTwice x = new NoWordTwice();
        Check.put(x, text);
        x.end(length);
        x.text();
        due("'" + text + "' cut to " + length + ": fault(1)", x.fault(1), place);
    }

    private void endThatCannotBe() {
        sentence(9, "false, changing nothing, if it has not so many, or n is below 0.");
        for (int n : new int[] {21, 22, 400, 401, MAX, -1, -20, MIN}) {
            NoWordTwice x = fixes();
            due("end(" + n + ") of twenty", x.end(n), false);
            due("the next feed", x.feed(FIX, BLANKS, BLANKS, BLANKS, BLANKS), 40);
            due("all lines are there", x.text(), 6);
            leaves("end(" + n + ")", 0, y -> number(y.end(n)));
        }
        NoWordTwice full = fullTape();
        due("end(401) of 400", full.end(401), false);
        due("end(1) of a new object", new NoWordTwice().end(1), false);
        due("end(-1) of a new object", new NoWordTwice().end(-1), false);
    }

    private void lawIsTheTape() {
        sentence(10, "The TAPE, empty then, is THE LAW: how many lines.");
        NoWordTwice x = Worlds.words(3);
        due("text() of an empty tape", x.text(), 0);
        due("a law of 16 lines", Check.law(x, "loose;".repeat(15) + "fix;"), 16);
        due("look(7)", x.look(7), 16);
        due("the tape is empty", x.end(1), false);
        due("the first line of them", x.fixes(0, 2), 0);
        due("a law of one line", Check.law(x, "fix;"), 1);
        due("nothing is left of the longer one: look(7)", x.look(7), 1);
        due("nothing is left of the longer one", x.fixes(0, 2), 1);
        due("text() of an empty tape again", x.text(), 0);
        due("look(7)", x.look(7), 0);
        due("a law without lines fixes nothing", x.fixes(0, 2), 0);
        String blanks = " ".repeat(395);
        due("a text of 400 bytes", Check.law(x, blanks + "fix ;"), 1);
        due("a text of 400 bytes fixes", x.fixes(0, 2), 1);
        String longest = "loose when " + "1=2 or ".repeat(54) + "1=1 ;";
        due("its length", longest.length(), 394);
        for (int i = 0; i < 8; i++) {
            due("one long law behind the other", Check.law(x, longest), 1);
            due("its answer", x.fixes(0, 2), 0);
        }
        due("a short one behind them", Check.law(x, "loose when many=2;fix when 1=1 and 2=2;"), 2);
        due("its first line", x.fixes(0, 6), 0);
        due("its second line", x.fixes(0, 2), 1);
        sentence(10, "THE LAW is a TEXT (empty at first)");
        NoWordTwice y = Worlds.words(3);
        due("look(7) at first", y.look(7), 0);
        due("fixes(0, 6) at first", y.fixes(0, 6), 0);
        y.entry(0, 1, NONE, NONE);
        due("at(0, 2) at first", y.at(0, 2), 0);
    }

    private void lawStaysAtAFault() {
        sentence(10, "NONE: a FAULT (it stays as it was).");
        for (String bad : new String[] {"loose", "loose;x", "loose;loose;loose when 1/0=1;", "fix;".repeat(17),
            "fix when (((((((((1=1)))))))));"}) {
            NoWordTwice x = Worlds.wordsAndLaw(3, "fix when many=1; loose;");
            x.editions(1);
            due("text(): " + bad, Check.law(x, bad), NONE);
            due("look(7)", x.look(7), 2);
            due("fixes(0, 2)", x.fixes(0, 2), 1);
            due("fixes(0, 6)", x.fixes(0, 6), 0);
            due("the tape is empty then", x.end(1), false);
            due("look(8): texts forget nothing", x.look(8), 1);
        }
        NoWordTwice first = new NoWordTwice();
        due("text(): the first has a fault", Check.law(first, "fix"), NONE);
        due("look(7): there is none", first.look(7), 0);
    }

    private void linesOfALaw() {
        sentence(10, "= {(fix | loose) [when B] ;}.");
        lines("", 0);
        lines("fix;", 1);
        lines("loose;", 1);
        lines("fix when 1=1;", 1);
        lines("loose when 1=1;fix;", 2);
        lines("fix;".repeat(16), 16);
        bad("fix fix;", 1, 4);
        bad("fix 1=1;", 1, 4);
        bad("fix when when 1=1;", 1, 9);
        bad(";fix;", 1, 0);
        bad("fix;;", 1, 4);
        bad("when 1=1;", 1, 0);
    }

    private void conditions() {
        sentence(10, "B = A {or A}.  A = C {and C}.");
        holds("1=1", true);
        holds("1=2 or 1=2 or 1=1", true);
        holds("1=2 or 1=2 or 1=2", false);
        holds("1=1 and 1=1 and 1=1", true);
        holds("1=1 and 1=1 and 1=2", false);
        holds("1=1 or 1=1 and 1=2", true);
        holds("1=2 and 1=1 or 1=1", true);
        holds("1=2 and 1=1 or 1=2", false);
        String ors = "1=2 or ".repeat(50);
        holds(ors + "1=1", true);
        holds(ors + "1=2", false);
        String ands = "1=1 and ".repeat(45);
        holds(ands + "1=1", true);
        holds(ands + "1=2", false);
        sentence(10, "C = E (< | = | >) E | not C | ( B ).");
        holds("1<2", true);
        holds("2<2", false);
        holds("3<2", false);
        holds("1=2", false);
        holds("2=2", true);
        holds("1>2", false);
        holds("2>2", false);
        holds("3>2", true);
        holds("not 1=1", false);
        holds("not not 1=1", true);
        holds("not 1=2 and 1=2", false);
        holds("not 1=1 or 1=1", true);
        holds("not (1=2 and 1=2)", true);
        holds("(1=1)", true);
        holds("(1=1 or 1=1) and 1=2", false);
        bad("fix when 1<2<3;", 1, 12);
        bad("fix when ();", 1, 10);
        bad("fix when not not;", 1, 16);
        bad("fix when (1)=1;", 1, 11);
        bad("fix when 1=(1);", 1, 11);
    }

    private void sums() {
        sentence(10, "E = T {(+ | -) T}.");
        holds("7=7", true);
        holds("7-2-1=4", true);
        holds("7-2+1=6", true);
        holds("1+1" + "+1".repeat(150) + "=152", true);
        bad("fix when +1=1;", 1, 9);
        bad("fix when -1=1;", 1, 9);
        bad("fix when 1+=1;", 1, 11);
        bad("fix when 1--1=1;", 1, 11);
        sentence(10, "T = U {* U | / NUMBER}.");
        holds("2*3*4=24", true);
        holds("7/2*2=6", true);
        holds("2*7/2=7", true);
        holds("100/2/5/2=5", true);
        holds("1+2*3-8/4=5", true);
        bad("fix when 1/many=1;", 1, 11);
        bad("fix when 1/(1)=1;", 1, 11);
        bad("fix when *1=1;", 1, 9);
        bad("fix when 1*/1=1;", 1, 11);
    }

    private void units() {
        sentence(10, "U = NUMBER | common | lack | more | many | others | head.");
        for (String unit : new String[] {"5", "common", "lack", "more", "many", "others", "head"}) {
            lines("fix when " + unit + "=" + unit + ";", 1);
        }
        for (String none : new String[] {"fix", "loose", "when", "or", "and", "(", ")", ";", "<", "word"}) {
            bad("fix when 1=" + none + ";", 1, 11);
        }
        bad("fix when 1=not 1=1;", 1, 11);
    }

    private void letters() {
        sentence(10, "TOKENS: letters as many as stand together are KEYWORDS (those told here) or none");
        bad("fixx;", 1, 0);
        bad("fi;", 1, 0);
        bad("afix;", 1, 0);
        bad("fixwhen 1=1;", 1, 0);
        bad("fixA;", 1, 0);
        bad("fixZ;", 1, 0);
        bad("fixz;", 1, 0);
        bad("Fix;", 1, 0);
        bad("FIX;", 1, 0);
        bad("fix when heads=1;", 1, 9);
        bad("fix when hea=1;", 1, 9);
        bad("fix when 1=1 oor 1=1;", 1, 13);
        bad("fi x;", 1, 0);
        bad("lo\nose;", 1, 0);
        lines("fix when1=1or 2=2and 3=3or(1=1);", 1);
        lines("fix when not(1=1)and not(head<1);", 1);
        bad("fix1;", 1, 3);
    }

    private void digits() {
        sentence(10, "digits as many as stand together NUMBERS of 1 to 4 digits or none");
        holds("0<1", true);
        holds("9999>9998", true);
        holds("0009=9", true);
        holds("0000=0", true);
        holds("1234=1000+234", true);
        bad("fix when 10000=1;", 1, 9);
        bad("fix when 00000=1;", 1, 9);
        bad("fix when 1=12345678901234567890;", 1, 11);
        bad("fix when 1 2=12;", 1, 11);
        bad("fix when 1a=1;", 1, 10);
        bad("fix when 1.5=1;", 1, 10);
    }

    private void signs() {
        sentence(10, "; + - * / ( ) < = > .");
        lines("fix when(1+1-1*1/1<1or 1=1)and 1>0;", 1);
        for (char sign : "!\"#$%&',.:?@[\\]^_`{|}~".toCharArray()) {
            bad("fix" + sign + ";", 1, 3);
        }
        bad("fix when 1<=1;", 1, 11);
        bad("fix when 1==1;", 1, 11);
    }

    private void blanks() {
        sentence(10, "Blanks (32, 10) between.");
        lines(" ", 0);
        lines("\n", 0);
        lines(" \n \n", 0);
        lines(" ".repeat(400), 0);
        lines("\n fix\n \nwhen\n1\n=\n1 ; \n", 1);
        for (int sign = 0; sign < 32; sign++) {
            if (sign != 10) {
                bad("fix" + (char) sign + ";", 1, 3);
            }
        }
        for (int sign = 127; sign < 256; sign++) {
            bad("fix" + (char) sign + ";", 1, 3);
        }
    }

    private void intsWrap() {
        sentence(10, "Ints, which wrap");
        holds("9999*9999*9999>0", 9999 * 9999 * 9999 > 0);
        holds("9999*9999*9999<0", 9999 * 9999 * 9999 < 0);
        // 8192 * 8192 * 32 is 2147483648, one more than the largest int.
        holds("8192*8192*32<0", true);
        holds("8192*8192*32-1>0", true);
        holds("8192*8192*64=0", true);
        holds("8192*8192*31+8191*8192+8191>0", true);
        holds("8192*8192*31+8191*8192+8192<0", true);
        holds("0-8192*8192*32=8192*8192*32", true);
        holds("0-8192*8192*32-1>0", true);
        holds("8192*8192*32<0-8191*8192*32", true);
        holds("8192*8192*32<1", true);
        holds("8192*8192*32>1", false);
        holds("8192*8192*32-1>8191*8192*32", true);
    }

    private void partsGoTowardsZero() {
        sentence(10, "/ goes towards 0.");
        holds("7/2=3", true);
        holds("1/2=0", true);
        holds("0/9999=0", true);
        holds("9999/9999=1", true);
        // 8192 * 8192 * 32 is the least int, -2147483648; by 3 it is -715827882.67.
        holds("8192*8192*32/3=0-7158*9999*10-99*1000-462", true);
        holds("8192*8192*32/3*3=8192*8192*32+2", true);
        holds("8192*8192*32/9999*9999>8192*8192*32", true);
        holds("8192*8192*32/1=8192*8192*32", true);
        holds("head-7/2=0-3", true);
    }

    private void firstFaultByPlace() {
        sentence(11, "FAULTS, the first by its place");
        bad("fix when 1/0=1; x", 2, 11);
        bad("x; fix when 1/0=1;", 1, 0);
        bad("fix when (((((((((1/0=1;", 3, 17);
        bad("fix when 1/0=1 and (((((((((1=1;", 2, 11);
        bad("fix when ((((((((1/0=(;", 2, 19);
        bad("fix;".repeat(16) + "fix when 1/0=1;", 3, 64);
        bad("fix;".repeat(15) + "fix when 1/0=1;" + "fix;", 2, 71);
        bad("fix when 1/0=1/0;", 2, 11);
    }

    private void leastFaultAtOnePlace() {
        sentence(11, "at one place the least");
        // A ninth ( or not, where none can stand at all.
        bad("fix when ((((((((1=(1=1", 1, 19);
        bad("fix when ((((((((1 not", 1, 19);
        bad("fix when not not not not not not not not 1=1 (", 1, 45);
        // Behind the sixteenth line, no line's keyword.
        bad("fix;".repeat(16) + "when", 1, 64);
        bad("fix;".repeat(16) + ";", 1, 64);
        // A part by what is no number is not yet one by 0.
        bad("fix when 1/00000=1;", 1, 11);
    }

    private void whatCannotStand() {
        sentence(11, "1 what can't stand there");
        bad("fix when 1=1 1=1;", 1, 13);
        bad("fix when 1=1);", 1, 12);
        bad("fix when (1=1;", 1, 13);
        bad("fix when 1=1 and or 1=1;", 1, 17);
        bad("fix when 1=1 when 1=1;", 1, 13);
        bad("fix;".repeat(15) + "fix fix;", 1, 64);
        bad(" ".repeat(399) + "x", 1, 399);
        bad(" ".repeat(399) + "1", 1, 399);
        bad(";".repeat(400), 1, 0);
        bad("(".repeat(400), 1, 0);
        bad("fix when 1=1" + "+1".repeat(194), 1, 400);
        bad("fix;" + " ".repeat(395) + ";", 1, 399);
    }

    private void endOfTheText() {
        sentence(11, "(the end: the text's length).");
        bad("fix", 1, 3);
        bad("fix \n ", 1, 6);
        bad("fix when", 1, 8);
        bad("fix when 1", 1, 10);
        bad("fix when 1=", 1, 11);
        bad("fix when 1=1", 1, 12);
        bad("fix when (1=1", 1, 13);
        bad("fix when 1/", 1, 11);
        bad("fix when not", 1, 12);
        bad("fix when 1=1 or", 1, 15);
        bad("fix;loose", 1, 9);
        bad("fix" + " ".repeat(397), 1, 400);
        bad(" ".repeat(397) + "fix", 1, 400);
    }

    private void partByZero() {
        sentence(11, "2 (at the NUMBER) a part by 0.");
        bad("fix when 1/0=1;", 2, 11);
        bad("fix when 1/0000=1;", 2, 11);
        bad("fix when 1 / \n 00 = 1;", 2, 15);
        bad("fix when 1/1/0=1;", 2, 13);
        bad("fix when head*2/0=1;", 2, 16);
        bad("loose when 1=0/0;", 2, 15);
        lines("fix when 1*0=0/1;", 1);
        lines("fix when 1/0001=1;", 1);
    }

    private void seventeenthLine() {
        sentence(11, "3 (at its KEYWORD) the 17th line");
        lines("fix;".repeat(16), 16);
        lines("fix;".repeat(16) + " \n", 16);
        bad("fix;".repeat(17), 3, 64);
        bad("fix;".repeat(16) + " \nloose;", 3, 66);
        bad("fix;".repeat(16) + "loose", 3, 64);
        bad("fix;".repeat(16) + "fix x", 3, 64);
        bad("fix;".repeat(20), 3, 64);
        bad("loose when 1=1;".repeat(17), 3, 240);
    }

    private void ninthOpen() {
        sentence(11, "(at it) the 9th ( or not that is open.");
        lines("fix when " + "(".repeat(8) + "1=1" + ")".repeat(8) + ";", 1);
        bad("fix when " + "(".repeat(9) + "1=1" + ")".repeat(9) + ";", 3, 17);
        lines("fix when " + "not ".repeat(8) + "1=1;", 1);
        bad("fix when " + "not ".repeat(9) + "1=1;", 3, 41);
        lines("fix when " + "not(".repeat(4) + "1=1" + ")".repeat(4) + ";", 1);
        bad("fix when " + "not(".repeat(4) + "not 1=1" + ")".repeat(4) + ";", 3, 25);
        bad("fix when " + "not(".repeat(4) + "(1=1)" + ")".repeat(4) + ";", 3, 25);
        // Those that are closed do not count, nor those of another line.
        String eight = "((((((((1=1))))))))";
        lines("fix when " + eight + " and " + eight + ";loose when " + eight + ";", 2);
        lines("fix when " + "(1=1) and ".repeat(20) + "(1=1);", 1);
        String nots = "not not not not not not not not 1=1";
        lines("fix when " + nots + " or " + nots + ";", 1);
        lines("fix when (not not not not not not not 1=1 and not 1=1);", 1);
        bad("fix when (not not not not not not not 1=1 and not not not not not not not not 1=1);", 3, 74);
        bad("fix when (((((((1=1 and (1=1) and ((1=1)", 3, 35);
        holds("not ".repeat(8) + "1=1", true);
        holds("not ".repeat(7) + "1=1", false);
        holds("1=2 or (1=2 or 1=1 and ".repeat(8) + "1=1" + ")".repeat(8), true);
        holds("1=2 or (1=2 or 1=1 and ".repeat(8) + "1=2" + ")".repeat(8), false);
    }

    private void faultOfTheLatestText() {
        sentence(11, "Of the latest text(): what 0 the FAULT (0 without one), 1 its place (NONE).");
        NoWordTwice x = new NoWordTwice();
        due("fault(0) ahead of any text", x.fault(0), 0);
        due("fault(1) ahead of any text", x.fault(1), NONE);
        Check.law(x, "x");
        due("fault(0)", x.fault(0), 1);
        due("fault(1): a place may be 0", x.fault(1), 0);
        Check.put(x, "fix;");
        due("fault(0) until the next text()", x.fault(0), 1);
        due("fault(1) until the next text()", x.fault(1), 0);
        x.text();
        due("fault(0) behind a good one", x.fault(0), 0);
        due("fault(1) behind a good one", x.fault(1), NONE);
        Check.law(x, "fix when 1/0=1;");
        due("fault(0)", x.fault(0), 2);
        due("fault(1)", x.fault(1), 11);
        x.text();
        due("fault(0) behind an empty one", x.fault(0), 0);
        due("fault(1) behind an empty one", x.fault(1), NONE);
    }

    private void faultOfAnotherWhat() {
        sentence(11, "NONE for another what.");
        for (int what : new int[] {-1, 2, 3, MIN, MAX}) {
            NoWordTwice x = new NoWordTwice();
            Check.law(x, "fix when 1/0=1;");
            leaves("fault(" + what + ")", x, NONE, y -> y.fault(what));
            due("fault(" + what + ") of a new object", new NoWordTwice().fault(what), NONE);
        }
    }

    private static NoWordTwice fullTape() {
        NoWordTwice x = new NoWordTwice();
        for (int i = 0; i < 20; i++) {
            x.feed(BLANKS, BLANKS, BLANKS, BLANKS, BLANKS);
        }
        return x;
    }

    /** A tape of twenty bytes, a line in each four. */
    private static NoWordTwice fixes() {
        NoWordTwice x = new NoWordTwice();
        x.feed(FIX, FIX, FIX, FIX, FIX);
        return x;
    }

    private void lines(String text, int lines) {
        NoWordTwice x = new NoWordTwice();
        due("text(): '" + text + "'", Check.law(x, text), lines);
        due("fault(0): '" + text + "'", x.fault(0), 0);
        due("fault(1): '" + text + "'", x.fault(1), NONE);
        due("look(7): '" + text + "'", x.look(7), lines);
    }

    private void bad(String text, int fault, int place) {
        NoWordTwice x = new NoWordTwice();
        due("text(): '" + text + "'", Check.law(x, text), NONE);
        due("fault(0): '" + text + "'", x.fault(0), fault);
        due("fault(1): '" + text + "'", x.fault(1), place);
        due("look(7): '" + text + "'", x.look(7), 0);
    }

    /** Whether the condition is so for head 0 and a set of two words. */
    private void holds(String condition, boolean want) {
        NoWordTwice x = Worlds.words(3);
        due("text(): '" + condition + "'", Check.law(x, "fix when " + condition + ";"), 1);
        due("'" + condition + "'", x.fixes(0, 6), number(want));
    }
}
