/** The document's promises 23 to 28: labels; who is late. */
final class DocDelays extends DocPart {
    private static final int[] NOT_BELOW_100 = {-1, 100, LOW, HIGH};

    private DocDelays() { }

    static void run() {
        labels();
        labelsRefuse();
        way();
        late();
        worst();
        drawn();
        chance();
        chanceRefuses();
    }

    private static void labels() {
        Doc.says(23, "LABELS by PRICES that a SHEET tells: how many are KEPT at all FLIGHTS together (what 0),");
        due(told(Plans.calm(), 0, 0, 0).labels(0, 0), 2);
        due(told(Plans.calm(), 1, 0, 0).labels(0, 0), 2);
        due(told(Plans.fan(), 0, 0, 0, 0).labels(0, 0), 3);
        due(told(Plans.fan(), 1, 3, 0, 0).labels(0, 0), 4);
        due(told(Plans.threes(), 0, 0, 0, 0, 0, 0, 0).labels(0, 0), 6);
        due(told(new CrewPairings(), 0).labels(0, 0), 0);
        Doc.says(23, "DROPPED (1).");
        due(told(Plans.calm(), 0, 0, 0).labels(0, 1), 0);
        due(told(Plans.fan(), 0, 0, 0, 0).labels(0, 1), 1);
        due(told(Plans.fan(), 1, 3, 0, 0).labels(0, 1), 0);
        due(told(Plans.threes(), 0, 0, 0, 0, 0, 0, 0).labels(0, 1), 6);
        due(told(new CrewPairings(), 0).labels(0, 1), 0);
        // one flight less: none comes to it any more
        CrewPairings less = told(Plans.fan(), 0, 0, 0, 0);
        due(less.labels(0, 0), 3);
        less.drop();
        less.sheet(0, 0, 2);
        due(less.labels(0, 0), 2);
        due(less.labels(0, 1), 0);
        // asked of one sheet, then of another one, then of the first
        CrewPairings x = told(Plans.fan(), 0, 0, 0, 0);
        Plans.row(x, 1, 1, 3, 0, 0);
        due(x.labels(0, 1), 1);
        due(x.labels(1, 1), 0);
        due(x.labels(0, 0), 3);
        x.put(0, 0, 3);
        due(x.labels(0, 0), 4);
    }

    private static void labelsRefuse() {
        Doc.says(23, "BAD: SHEET,");
        for (int sheet : NOT_OF_FOUR) {
            Twins.refused(y -> y.labels(sheet, 0), BAD);
        }
        Doc.says(23, "what;");
        for (int what : NOT_OF_TWO) {
            Twins.refused(y -> y.labels(0, what), BAD);
        }
        Doc.says(23, "-11;");
        Twins.refused(y -> y.labels(2, 0), MISSING);
        Twins.refused(y -> y.labels(2, 1), MISSING);
        due(new CrewPairings().labels(3, 0), MISSING);
        Doc.says(23, "STATE: it tells of more or fewer FLIGHTS,");
        Twins.refused(y -> y.labels(1, 0), STATE);
        Twins.refused(y -> y.labels(3, 1), STATE);
        CrewPairings x = Plans.six();
        for (int n = 0; n <= 8; n++) {
            x.sheet(0, 0, n);
            due(Math.min(x.labels(0, 0), 0), n == 6 ? 0 : STATE);
        }
        x.sheet(0, 1, 40);
        due(x.labels(0, 1), STATE);
        due(told(new CrewPairings(), 0, 0).labels(0, 0), STATE);
        Doc.says(23, "a number below -999999");
        labelsNot(-1000000, Integer.MIN_VALUE, Long.MIN_VALUE);
        due(told(Plans.lonely(), 1, -999999).labels(0, 0), 1);
        due(told(Plans.lonely(), 1, -1000000).labels(0, 0), STATE);
        Doc.says(23, "or above 999999.");
        labelsNot(1000000, 1L << 32, Long.MAX_VALUE);
        due(told(Plans.lonely(), 1, 999999).labels(0, 0), 1);
        due(told(Plans.lonely(), 1, 1000000).labels(0, 0), STATE);
    }

    /** With one of these numbers, at whichever place, it is no price. */
    private static void labelsNot(long... numbers) {
        for (int i = 0; i < 6; i++) {
            int at = i;
            for (long v : numbers) {
                Twins.refused(y -> {
                    Plans.busy(y);
                    y.put(0, at, v);
                }, y -> y.labels(0, at % 2), STATE);
            }
        }
    }

    private static void way() {
        Doc.says(24, "WAY by them.");
        due(told(Plans.calm(), 0, 0, 0).way(0), 35);
        due(told(Plans.calm(), 1, 30, 6).way(0), -1);
        due(told(Plans.calm(), 0, 999999, 999999).way(0), 35 - 1999998);
        due(told(Plans.calm(), 0, -999999, -999999).way(0), 35 + 1999998);
        due(told(Plans.fan(), 0, 3, 0, 0).way(0), 37);
        CrewPairings x = told(Plans.fan(), 0, 0, 0, 0);
        Plans.row(x, 3, 1, 9, 0, 0);
        due(x.way(0), 38);
        due(x.way(3), 31);
        due(x.way(0), 38);

        Doc.says(24, "NO: no such SHEET,");
        for (int sheet : NOT_OF_FOUR) {
            Twins.refused(y -> y.way(sheet), NO);
        }
        Doc.says(24, "it is missing,");
        Twins.refused(y -> y.way(2), NO);
        due(new CrewPairings().way(0), NO);
        Doc.says(24, "told as not to be;");
        Twins.refused(y -> y.way(1), NO);
        Twins.refused(y -> y.way(3), NO);
        for (long v : new long[] {-1000000, 1000000, Long.MIN_VALUE, Long.MAX_VALUE}) {
            Twins.refused(y -> {
                Plans.busy(y);
                y.put(0, 3, v);
            }, y -> y.way(0), NO);
        }
        due(told(Plans.calm(), 0, 0).way(0), NO);
        due(told(Plans.calm(), 0, 0, 0, 0).way(0), NO);
        Doc.says(24, "there is none.");
        due(told(Plans.lonely(), 0, 0).way(0), NO);
        due(told(new CrewPairings(), 0).way(0), NO);
        x = told(Plans.calm(), 0, 0, 0);
        x.base(2);
        due(x.way(0), NO);
        x.base(1);
        due(x.way(0), 35);
    }

    private static void late() {
        Doc.says(25, "FLIGHTS that are LATE by more than 0 (what 0; bits;");
        CrewPairings x = Plans.six();
        // slacks in pairings of BEST: 1 behind 0, 0 behind 2, 1 behind 4
        due(x.late(0, 0, 0), 0);
        due(x.late(0, 1, 0), 1);
        due(x.late(0, 2, 0), 3);
        due(x.late(2, 1, 0), 12);
        due(x.late(5, 99, 0), 32);
        due(x.late(4, 99, 0), 48);
        due(Plans.chain().late(0, 99, 0), 15);
        // of singles() those out are had with flight 5, which is had with flight 0, as flight 6 is: slacks 7, 6, .. 3
        for (int f = 0; f < 5; f++) {
            due(Plans.singles().late(f, 8 - f, 0), (1 << f) + 32 + (f == 0 ? 64 : 0));
            due(Plans.singles().late(f, 7 - f, 0), 1 << f);
        }
        // by another BEST others are ahead: {0, 1} and {2, 3}, then all four
        CrewPairings other = Plans.chain();
        other.fee(1, 9);
        other.fee(0, 0);
        due(other.bestOf(0, 0), 3);
        due(other.late(0, 99, 0), 3);
        other.fee(0, 99);
        due(other.bestOf(0, 0), 15);
        due(other.late(0, 99, 0), 15);
        other.fee(0, 0);
        due(other.late(0, 99, 0), 3);
        Doc.says(25, "one has a DELAY of d, 0 .. 99, others none),");
        for (int f = 0; f < 6; f++) {
            due(Plans.six().late(f, 0, 0), 0);
            due(Plans.six().late(f, 1, 0) >> f & 1, 1);
            due(Plans.six().late(f, 99, 0), (f % 2 == 0 ? 3 : 2) << f / 2 * 2);
        }
        Doc.says(25, "how much LATE all are together (1).");
        due(x.late(0, 0, 1), 0);
        due(x.late(0, 1, 1), 1);
        due(x.late(0, 2, 1), 3);
        due(x.late(2, 99, 1), 198);
        due(x.late(4, 99, 1), 197);
        due(Plans.chain().late(0, 99, 1), 99 + 97 + 94 + 92);

        Doc.says(25, "BAD;");
        for (int f : NOT_OF_SIX) {
            Twins.refused(y -> y.late(f, 5, 0), BAD);
        }
        for (int d : NOT_BELOW_100) {
            Twins.refused(y -> y.late(0, d, 0), BAD);
            Twins.refused(DocPart::alone, y -> y.late(0, d, 0), BAD);
        }
        for (int what : NOT_OF_TWO) {
            Twins.refused(y -> y.late(0, 5, what), BAD);
            Twins.refused(DocPart::alone, y -> y.late(0, 5, what), BAD);
        }
        due(new CrewPairings().late(0, 5, 0), BAD);
        Doc.says(25, "STATE: there is no COVER.");
        Twins.refused(DocPart::alone, y -> y.late(0, 5, 0), STATE);
        Twins.refused(DocPart::alone, y -> y.late(0, 0, 1), STATE);
        x = Plans.calm();
        x.mark(0, 1, 2);
        due(x.late(0, 5, 0), STATE);
    }

    private static void worst() {
        Doc.says(26, "The FLIGHT by whose DELAY of d (0 .. 99)");
        due(Plans.six().worst(0), 0);
        due(Plans.six().worst(99), 2);
        due(Plans.six().worst(100), BAD);
        Doc.says(26, "all are LATE most together");
        CrewPairings x = Plans.six();
        due(x.worst(1), 2);
        due(x.worst(99), 2);
        due(Plans.chain().worst(99), 0);
        due(Plans.plan(1, 0, 15, 25, 0, 1, 0, 10).worst(99), 1);
        Doc.says(26, "(of like ones the first;");
        due(x.worst(0), 0);
        due(Plans.threes().worst(99), 0);
        // by 2 only the flight itself is late, whichever it is
        due(Plans.calm().worst(2), 0);
        due(Plans.plan(1, 0, 15, 25, 0, 1, 0, 10).worst(2), 0);
        due(Plans.plan(1, 0, 15, 25, 0, 1, 0, 10).worst(3), 1);
        Doc.says(26, "NONE: no FLIGHTS).");
        due(new CrewPairings().worst(0), NONE);
        due(new CrewPairings().worst(99), NONE);

        Doc.says(26, "BAD;");
        for (int d : NOT_BELOW_100) {
            Twins.refused(y -> y.worst(d), BAD);
            Twins.refused(DocPart::alone, y -> y.worst(d), BAD);
            due(new CrewPairings().worst(d), BAD);
        }
        Doc.says(26, "STATE: there is no COVER.");
        Twins.refused(DocPart::alone, y -> y.worst(0), STATE);
        Twins.refused(DocPart::alone, y -> y.worst(99), STATE);
    }

    private static void drawn() {
        Doc.says(27, "DRAWN (n 1 .. 99):");
        due(Plans.calm().drawn(7, 1), 0);
        due(Plans.calm().drawn(7, 100), BAD);
        due(Plans.calm().drawn(7, 0), BAD);
        Doc.says(27, "LATE of all together.");
        // by SEED 0 z is 12345, of which >>> 9 leaves 24; then -740551042, of which it leaves 6942219
        due(Plans.calm().drawn(0, 99), 24 + Math.max(6942219 % 99, 22));
        due(Plans.calm().drawn(0, 10), 4 + Math.max(9, 2));
        due(Plans.calm().drawn(0, 1), 0);
        due(Plans.calm().drawn(0, 2), 1);
        due(new CrewPairings().drawn(0, 99), 0);

        Doc.says(27, "BAD;");
        for (int n : new int[] {0, 100, -1, LOW, HIGH}) {
            Twins.refused(y -> y.drawn(5, n), BAD);
            Twins.refused(DocPart::alone, y -> y.drawn(5, n), BAD);
            due(new CrewPairings().drawn(5, n), BAD);
        }
        Doc.says(27, "STATE: there is no COVER.");
        Twins.refused(DocPart::alone, y -> y.drawn(5, 1), STATE);
        Twins.refused(DocPart::alone, y -> y.drawn(LOW, 99), STATE);
    }

    private static void chance() {
        Doc.says(28, "IN m seeds of w (0 .. 9999):");
        due(Plans.calm().chance(1, 20, 99, 9999, 0), 1);
        due(Plans.calm().chance(1, 20, 1, 0, 0), 1);
        due(Plans.calm().chance(0, 1, 99, 0, 0), 0);
        Doc.says(28, "part 0 above, 1 below the line,");
        int[] first = {Plans.calm().drawn(300, 99), Plans.calm().drawn(301, 99)};
        int least = Math.min(first[0], first[1]);
        due(first[0] == first[1] ? 1 : 0, 0);
        due(Plans.calm().chance(300, 2, 99, least, 0), 1);
        due(Plans.calm().chance(300, 2, 99, least, 1), 2);
        due(Plans.calm().chance(300, 2, 99, least - 1, 0), 0);
        Doc.says(28, "in lowest terms.");
        CrewPairings x = Plans.calm();
        int[] sums = new int[20];
        for (int i = 0; i < 20; i++) {
            sums[i] = x.drawn(300 + i, 99);
        }
        for (int m = 1; m <= 20; m++) {
            for (int w : new int[] {0, 60, 90, 9999}) {
                int in = 0;
                for (int i = 0; i < m; i++) {
                    if (sums[i] <= w) in++;
                }
                int common = m;
                while (in % common != 0 || m % common != 0) common--;
                due(x.chance(300, m, 99, w, 0), in / common);
                due(x.chance(300, m, 99, w, 1), m / common);
            }
        }
        due(Plans.calm().chance(1, 20, 99, 9999, 1), 1);
        due(Plans.calm().chance(0, 20, 99, 0, 1), 1);
        due(new CrewPairings().chance(1, 20, 99, 0, 1), 1);
    }

    private static void chanceRefuses() {
        Doc.says(28, "BAD;");
        int[][] bad = {{0, 5, 5, 0}, {21, 5, 5, 0}, {-1, 5, 5, 0}, {LOW, 5, 5, 0}, {HIGH, 5, 5, 0}, {5, 0, 5, 0},
            {5, 100, 5, 0}, {5, LOW, 5, 0}, {5, HIGH, 5, 0}, {5, 5, -1, 0}, {5, 5, 10000, 0}, {5, 5, LOW, 0},
            {5, 5, HIGH, 0}, {5, 5, 5, -1}, {5, 5, 5, 2}, {5, 5, 5, LOW}, {5, 5, 5, HIGH}};
        for (int[] b : bad) {
            Twins.refused(y -> y.chance(1, b[0], b[1], b[2], b[3]), BAD);
            Twins.refused(DocPart::alone, y -> y.chance(1, b[0], b[1], b[2], b[3]), BAD);
        }
        Doc.says(28, "STATE: there is no COVER.");
        Twins.refused(DocPart::alone, y -> y.chance(1, 1, 1, 0, 0), STATE);
        Twins.refused(DocPart::alone, y -> y.chance(HIGH, 20, 99, 9999, 1), STATE);
    }
}
