import java.util.function.IntToLongFunction;

/** What the tests of edges share: each names a promise and the sentence of it that it tries. */
abstract class Edges {
    static final int NONE = VaneTown.NONE;

    /** What is asked from here on is asked because of this sentence, which must stand in the document. */
    static void edge(int promise, String sentence) {
        Check.because("promise " + promise + ", \"" + sentence + "\": ");
        Check.due("this stands in the document", Doc.name(promise, sentence), true);
    }

    static void due(String call, long got, long want) {
        Check.due(call, got, want);
    }

    static void gives(VaneTown x, String call, long got, long want) {
        Check.gives(x, call, got, want);
    }

    static void takes(VaneTown x, String call, boolean got) {
        Check.takes(x, call, got);
    }

    static void refuses(VaneTown x, String call, long got, int status) {
        Check.refuses(x, call, got, status);
    }

    static void refuses(VaneTown x, String call, boolean got, int status) {
        Check.refuses(x, call, got, status);
    }

    /** The FRACTION that a call told. */
    static void tells(VaneTown x, String call, boolean got, long top, long bottom) {
        Check.takes(x, call, got);
        Check.due(call + ": top()", x.top(), top);
        Check.due(call + ": bottom()", x.bottom(), bottom);
    }

    /** A call with STATUS 0 at the least and the most number, and with STATUS 1 beyond, near and far. */
    static void bounds(VaneTown x, String call, IntToLongFunction of, int least, int most) {
        int[] within = {least, most};
        for (int n : within) {
            of.applyAsLong(n);
            Check.due(call + " of " + n + ": status()", x.status(), 0);
        }
        beyond(x, call, of, least, most);
    }

    static void beyond(VaneTown x, String call, IntToLongFunction of, int least, int most) {
        int[] without = {least - 1, most + 1, Integer.MIN_VALUE, Integer.MAX_VALUE};
        for (int n : without) {
            Check.refuses(x, call + " of " + n, of.applyAsLong(n), 1);
        }
    }

    /** A boolean answer as a number, so that false counts as NONE. */
    static long asNumber(boolean is) {
        return is ? 1 : NONE;
    }

    /** Where all vanes of a village point now. */
    static void point(VaneTown x, String when, int... teeth) {
        for (int v = 0; v < teeth.length; v++) {
            Check.due(when + ": vane " + v + " points", x.vane(v, 3), teeth[v]);
        }
    }
}
