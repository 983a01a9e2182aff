import java.util.function.Predicate;

/** The document's draws once more, in longs, to tell ahead what an edition does. */
final class Draws {
    private long state;

    Draws(int state) {
        this.state = state & 0xffffffffL;
    }

    int next(int m) {
        state = (1664525L * state + 1013904223L) % (1L << 32);
        return (int) (state / 256 % m);
    }

    int state() {
        return (int) state;
    }

    /** The first state behind which the draws are as asked. */
    static int stateWhere(Predicate<Draws> asked) {
        for (int s = 0; s < 1_000_000; s++) {
            if (asked.test(new Draws(s * 4099))) {
                return s * 4099;
            }
        }
        throw new IllegalStateException("no state has such draws");
    }
}
