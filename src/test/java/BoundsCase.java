import java.util.function.ToIntFunction;

/** What the tests of the bounds share: each names its promise and the sentence, in the document's own words. */
abstract class BoundsCase {
    static final int NONE = -1;
    static final int MAX = Integer.MAX_VALUE;
    static final int MIN = Integer.MIN_VALUE;

    private final Check check = new Check();

    /** Says what the calls that follow stand for; SentencesTest holds the words against the document. */
    void sentence(int promise, String words) {
        check.promise("promise " + promise + ", \"" + words + "\"");
    }

    void due(String call, long got, long want) {
        check.due(call, got, want);
    }

    void due(String call, boolean got, boolean want) {
        check.due(call, got, want);
    }

    void same(String call, int[] got, int[] want) {
        due(call + ": as much stands", got.length, want.length);
        for (int i = 0; i < Math.min(got.length, want.length); i++) {
            due(call + ": what stands, " + i, got[i], want[i]);
        }
    }

    /** The call has the answer that is due, and all that stood stands still. */
    void leaves(String call, NoWordTwice x, int want, ToIntFunction<NoWordTwice> asked) {
        int[] before = Worlds.picture(x);
        due(call, asked.applyAsInt(x), want);
        same(call, Worlds.picture(x), before);
    }

    void leaves(String call, int want, ToIntFunction<NoWordTwice> asked) {
        leaves(call, Worlds.busy(), want, asked);
    }

    static int number(boolean answer) {
        return answer ? 1 : 0;
    }

    /** Editions were kept ahead of the call; behind it they are forgotten. */
    void forgets(String call, ToIntFunction<NoWordTwice> told) {
        NoWordTwice x = Worlds.busy();
        due(call + ": ahead of it", x.look(8), 3);
        told.applyAsInt(x);
        due(call + ": behind it", x.look(8), 0);
        due(call + ": undo()", x.undo(), false);
    }

    void finish() {
        check.finish();
    }
}
