/** What the parts of the document's test share: its answers by name, numbers that are none such, short hands. */
abstract class DocPart {
    static final int NONE = -1, BAD = -2, STATE = -3, FULL = -4, DEAR = -5;
    static final int MISSING = -11, OUTSIDE = -12, UNLIKE = -13, TOO_SMALL = -14;
    static final long NO = Long.MIN_VALUE;
    static final int LOW = Integer.MIN_VALUE, HIGH = Integer.MAX_VALUE;
    static final int[] NOT_OF_TWO = {-1, 2, LOW, HIGH};
    static final int[] NOT_OF_FOUR = {-1, 4, 5, LOW, HIGH};
    /** busy() has six flights. */
    static final int[] NOT_OF_SIX = {-1, 6, 7, LOW, HIGH};

    static void due(long got, long want) {
        Doc.due(got, want);
    }

    /** A flight that never comes back, and a sheet: no cover, no bound. */
    static void alone(CrewPairings x) {
        Plans.fly(x, 0, 1, 0, 10);
        Plans.row(x, 0, 1, 4);
    }

    /** KEPT and DROPPED by these prices. */
    static void label(CrewPairings x, int kept, int dropped, long... prices) {
        Plans.row(x, 0, 0, prices);
        due(x.labels(0, 0), kept);
        due(x.labels(0, 1), dropped);
    }

    /** WAY by these prices. */
    static void way(CrewPairings x, long want, long... prices) {
        Plans.row(x, 0, 0, prices);
        due(x.way(0), want);
    }

    /** The same object, of which sheet 0 tells these numbers. */
    static CrewPairings told(CrewPairings x, int sort, long... numbers) {
        Plans.row(x, 0, sort, numbers);
        return x;
    }
}
