/** What the tests share: counting answers that are not due, and feeding a law as a text. */
final class Check {
    private int passed = 0;
    private int failed = 0;
    private String promise = "";

    void promise(String name) {
        promise = name;
    }

    void due(String call, long got, long want) {
        if (got == want) {
            passed++;
            return;
        }
        failed++;
        System.out.println(promise + ": " + call + " answered " + got + ", due is " + want);
    }

    void due(String call, boolean got, boolean want) {
        due(call, got ? 1 : 0, want ? 1 : 0);
    }

    void finish() {
        System.out.println(passed + " passed, " + failed + " failed");
        if (failed != 0) {
            System.exit(1);
        }
    }

    static int[] fives(String text, int from) {
        int[] five = new int[5];
        for (int i = 0; i < 20; i++) {
            int sign = from + i < text.length() ? text.charAt(from + i) & 255 : 32;
            five[i / 4] = five[i / 4] << 8 | sign;
        }
        return five;
    }

    /** Puts a text of 400 signs at most on an empty tape. */
    static void put(NoWordTwice x, String text) {
        for (int from = 0; from < text.length(); from += 20) {
            int[] f = fives(text, from);
            x.feed(f[0], f[1], f[2], f[3], f[4]);
        }
        x.end(text.length());
    }

    static int law(NoWordTwice x, String text) {
        put(x, text);
        return x.text();
    }
}
