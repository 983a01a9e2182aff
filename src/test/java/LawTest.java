/** The texts of the law: what they may be, where their faults are, and what they answer. */
public final class LawTest {
    private static final Check CHECK = new Check();

    public static void main(String[] args) {
        goodTexts();
        whatCannotStand();
        partsByZero();
        tooMuch();
        values();
        workings();
        linesInTheirOrder();
        longTexts();
        CHECK.finish();
    }

    private static void good(String text, int lines) {
        NoWordTwice x = new NoWordTwice();
        CHECK.due("lines of '" + text + "'", Check.law(x, text), lines);
        CHECK.due("fault of '" + text + "'", x.fault(0), 0);
        CHECK.due("place of '" + text + "'", x.fault(1), -1);
    }

    private static void bad(String text, int fault, int place) {
        NoWordTwice x = new NoWordTwice();
        CHECK.due("'" + text + "'", Check.law(x, text), -1);
        CHECK.due("fault of '" + text + "'", x.fault(0), fault);
        CHECK.due("place of '" + text + "'", x.fault(1), place);
    }

    private static void goodTexts() {
        CHECK.promise("good texts");
        good("", 0);
        good(" \n ", 0);
        good("fix;", 1);
        good("\nfix\n;\nloose ;", 2);
        good("fix when1=1;", 1);
        good("fix when common=lack or more<many and others>head;", 1);
        good("fix when not not(1=1 or(2=2)and not 3=3);", 1);
        good("fix when 0001+2-3*4/9999=0000;", 1);
        good("fix when 1/2/3*4*head=0*0;", 1);
        good("fix when 1=1or 2=2and 3=3;", 1);
    }

    private static void whatCannotStand() {
        CHECK.promise("fault 1");
        bad("fix", 1, 3);
        bad("fix  ", 1, 5);
        bad(";", 1, 0);
        bad("fix;;", 1, 4);
        bad("fixx;", 1, 0);
        bad("fixwhen 1=1;", 1, 0);
        bad("Fix;", 1, 0);
        for (char letter : "azAZX".toCharArray()) {
            bad("fix" + letter + ";", 1, 0);
        }
        for (char sign : "@[`{_:".toCharArray()) {
            bad("fix" + sign + ";", 1, 3);
        }
        bad("fix when 1=1 and", 1, 16);
        bad("fix when 1", 1, 10);
        bad("fix\t;", 1, 3);
        bad("fix\r\n;", 1, 3);
        bad("when 1=1;", 1, 0);
        bad("fix when;", 1, 8);
        bad("fix when 1;", 1, 10);
        bad("fix when 1=;", 1, 11);
        bad("fix when =1;", 1, 9);
        bad("fix when 1=1=1;", 1, 12);
        bad("fix when 1=1 1;", 1, 13);
        bad("fix when 12345=1;", 1, 9);
        bad("fix when 00000=1;", 1, 9);
        bad("fix when 1a=1;", 1, 10);
        bad("fix when (1)=1;", 1, 11);
        bad("fix when (1=1;", 1, 13);
        bad("fix when (1=1", 1, 13);
        bad("fix when 1=1);", 1, 12);
        bad("fix when 1=(1);", 1, 11);
        bad("fix when not;", 1, 12);
        bad("fix when 1=not 1=1;", 1, 11);
        bad("fix when 1=1 or;", 1, 15);
        bad("fix when or 1=1;", 1, 9);
        bad("fix when 1=1 and or 1=1;", 1, 17);
        bad("fix when -1=1;", 1, 9);
        bad("fix when 1+=1;", 1, 11);
        bad("fix when 1/head=1;", 1, 11);
        bad("fix when 1/(2)=1;", 1, 11);
        bad("fix when 1/", 1, 11);
        bad("fix when fix=1;", 1, 9);
        bad("fix when 1==1;", 1, 11);
        bad("fix when 1=1, 2=2;", 1, 12);
        bad("fix when 1=1;\0", 1, 13);
        bad("fix when 1=1;\u00e9", 1, 13);
        bad("fix loose;", 1, 4);
        bad("fix when 1=1 when 1=1;", 1, 13);
    }

    private static void partsByZero() {
        CHECK.promise("fault 2");
        bad("fix when 1/0=1;", 2, 11);
        bad("fix when 1 / 0000 =1;", 2, 13);
        bad("fix when 1/00000=1;", 1, 11);
        bad("fix when 1/1/0=1 $;", 2, 13);
        bad("fix when $ 1/0=1;", 1, 9);
        good("fix when 0*0/1=0;", 1);
        good("fix when 1*0=0;", 1);
    }

    private static void tooMuch() {
        CHECK.promise("fault 3");
        String line = "fix;";
        good(line.repeat(16), 16);
        bad(line.repeat(17), 3, 64);
        bad(line.repeat(16) + " loose", 3, 65);
        bad(line.repeat(16) + " x", 1, 65);
        bad(line.repeat(16) + ";", 1, 64);
        good("fix when " + "not ".repeat(8) + "1=1;", 1);
        bad("fix when " + "not ".repeat(9) + "1=1;", 3, 9 + 8 * 4);
        good("fix when " + "(".repeat(8) + "1=1" + ")".repeat(8) + ";", 1);
        bad("fix when " + "(".repeat(9) + "1=1" + ")".repeat(9) + ";", 3, 17);
        bad("fix when " + "(not ".repeat(4) + "not 1=1;", 3, 29);
        good("fix when " + "(not ".repeat(4) + "1=1" + ")".repeat(4) + " and not 1=1;", 1);
        good("fix when " + "not ".repeat(8) + "1=1 and " + "not ".repeat(8) + "1=1;", 1);
        good("fix when " + "((((((((1=1)))))))) or ((((((((1=1))))))));", 1);
        bad("fix when " + "(((((((1=1 or (1=1 and ((", 3, 32);
        good("fix when " + "1=1 or ".repeat(50) + "1=1;", 1);
    }

    /** Whether word 0 (marks 1, 2, 4) is fixed by words 1 (marks 1, 8) and 2 (marks 2, 16). */
    private static boolean so(String condition) {
        NoWordTwice x = new NoWordTwice();
        x.word(7);
        x.word(9);
        x.word(18);
        x.word(8);
        x.word(3);
        x.word(64);
        CHECK.due("'" + condition + "'", Check.law(x, "fix when " + condition + ";"), 1);
        return x.fixes(0, 6) == 1;
    }

    private static void holds(String condition, boolean want) {
        CHECK.due("'" + condition + "' holds", so(condition), want);
    }

    private static void values() {
        CHECK.promise("values");
        holds("common=2", true);
        holds("lack=1", true);
        holds("more=2", true);
        holds("many=2", true);
        holds("others=2", true);
        holds("head=0", true);
        NoWordTwice x = new NoWordTwice();
        for (int i = 0; i < 16; i++) {
            x.word(1023);
        }
        Check.law(x, "fix when head=15 and many=1 and others=14 and common=10 and lack=0 and more=0;");
        CHECK.due("sixteen words of all marks", x.fixes(15, 1), 1);
        CHECK.due("another head", x.fixes(14, 1), 0);
        CHECK.due("more words", x.fixes(15, 3), 0);
    }

    private static void workings() {
        CHECK.promise("workings");
        holds("1+2*3=7", true);
        holds("7-2-1=4", true);
        holds("7/2*2=6", true);
        holds("2*7/2=7", true);
        holds("0-7/2=0-3", true);
        holds("1<1", false);
        holds("1<2", true);
        holds("2>1", true);
        holds("1>1", false);
        holds("1=2", false);
        holds("head-7*1/2=0-3", true);
        holds("9999*9999*9999*9999<0", 9999 * 9999 * 9999 * 9999 < 0);
        holds("9999*9999*43>0", 9999 * 9999 * 43 > 0);
        holds("9999*9999*22/2<0", 9999 * 9999 * 22 / 2 < 0);
        holds("9999*9999*22/1000=0-2095", 9999 * 9999 * 22 / 1000 == -2095);
        holds("1=1 or 1=1 and 1=2", true);
        holds("(1=1 or 1=1) and 1=2", false);
        holds("not 1=1 or 1=1", true);
        holds("not (1=1 or 1=1)", false);
        holds("not not 1=1", true);
        holds("not 1=2 and 1=1", true);
        holds("1=2 or 1=2 or 1=1", true);
        holds("1=1 and 1=1 and 1=2", false);
        holds("1=2 or (1=2 or 1=1 and (1=2 or 1=1 and (1=2 or 1=1 and 1+2*3=7)))", true);
    }

    private static void linesInTheirOrder() {
        CHECK.promise("lines");
        NoWordTwice x = new NoWordTwice();
        x.word(1);
        x.word(2);
        x.word(4);
        x.word(8);
        Check.law(x, "loose when many=1; fix when head=0; loose; fix;");
        CHECK.due("the first line", x.fixes(0, 2), 0);
        CHECK.due("the second", x.fixes(0, 6), 1);
        CHECK.due("the third, which has none", x.fixes(1, 5), 0);
        Check.law(x, "fix when many=1; fix when many=3;");
        CHECK.due("no line", x.fixes(0, 6), 0);
        CHECK.due("the last line", x.fixes(0, 14), 1);
    }

    private static void longTexts() {
        CHECK.promise("long texts");
        NoWordTwice x = new NoWordTwice();
        x.word(1);
        x.word(2);
        String start = "fix when 0=0";
        String text = start + "+0".repeat((399 - start.length()) / 2);
        text = text + (text.length() == 398 ? " ;" : ";");
        CHECK.due("length", text.length(), 400);
        CHECK.due("400 signs", Check.law(x, text), 1);
        CHECK.due("its answer", x.fixes(0, 2), 1);
        x.image(true);
        Check.law(x, "loose;");
        CHECK.due("another law", x.fixes(0, 2), 0);
        x.image(false);
        CHECK.due("the long one again", x.fixes(0, 2), 1);
        for (int i = 0; i < 15; i++) {
            Check.law(x, text);
            Check.law(x, "fix when 1=1 and 2=2 and 3=");
            CHECK.due("one after another: lines", Check.law(x, "loose when 1+1=3; fix when 1=1 and 2=2;"), 2);
            CHECK.due("one after another", x.fixes(0, 2), 1);
        }
    }
}
