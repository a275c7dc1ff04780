/** The document's promises 1 to 11: a new object; flights, airports. */
final class DocFlights extends DocPart {
    private DocFlights() { }

    static void run() {
        newObject();
        fly();
        drop();
        of();
        shift();
        kind();
        told();
        taken();
        base();
        fee();
        mark();
    }

    private static void newObject() {
        Doc.says(1, "No FLIGHTS.");
        CrewPairings x = new CrewPairings();
        due(x.count(0), 0);
        due(x.of(0, 0), BAD);
        due(x.drop(), STATE);
        due(x.fly(0, 1, 2, 3), 0);
        // another one is another one
        due(new CrewPairings().count(0), 0);
        due(x.count(0), 1);
        x.sheet(0, 0, 1);
        due(new CrewPairings().put(0, 0, 1), MISSING);
        x.image();
        due(new CrewPairings().back(), STATE);
    }

    private static void fly() {
        Doc.says(2, "A FLIGHT: its number.");
        CrewPairings x = new CrewPairings();
        for (int f = 0; f < 7; f++) {
            due(x.fly(f % 4, (f + 1) % 4, 40 - f, 50 + f), f);
            due(x.count(0), f + 1);
        }
        for (int f = 0; f < 7; f++) {
            due(x.of(f, 0) * 10 + x.of(f, 1), f % 4 * 10 + (f + 1) % 4);
            due(x.of(f, 2) * 100 + x.of(f, 3), (40 - f) * 100 + 50 + f);
        }
        x.drop();
        x.drop();
        due(x.fly(1, 0, 3, 4), 5);
        due(x.of(5, 3), 4);

        Doc.says(2, "BAD");
        for (int a : NOT_OF_FOUR) {
            Twins.refused(y -> y.fly(a, 1, 2, 3), BAD);
            Twins.refused(y -> y.fly(1, a, 2, 3), BAD);
        }
        int[][] times = {{-1, 3}, {LOW, 3}, {0, 300}, {0, HIGH}, {5, 5}, {6, 5}, {0, 0}, {299, 299}, {300, 301}, {3, -1}};
        for (int[] t : times) {
            Twins.refused(y -> y.fly(0, 1, t[0], t[1]), BAD);
        }
        Doc.says(2, "(FROM and TO the same, too);");
        for (int a = 0; a < 4; a++) {
            int same = a;
            Twins.refused(y -> y.fly(same, same, 2, 3), BAD);
            Twins.refused(Plans::full, y -> y.fly(same, same, 2, 3), BAD);
        }

        Doc.says(2, "FULL.");
        Twins.refused(Plans::full, y -> y.fly(0, 1, 2, 3), FULL);
        Twins.refused(Plans::full, y -> y.fly(3, 2, 0, 299), FULL);
        x = Twins.made(Plans::full);
        due(x.drop(), 6);
        due(x.fly(3, 2, 0, 299), 6);
        due(x.fly(3, 2, 0, 299), FULL);
    }

    private static void drop() {
        Doc.says(3, "The latest FLIGHT is none any more");
        CrewPairings x = Plans.calm();
        due(x.pairing(3, 0), 35);
        due(x.drop(), 1);
        due(x.of(1, 2), BAD);
        due(x.of(0, 3), 10);
        due(x.pairing(3, 0), BAD);
        due(x.pairings(NONE), 0);
        due(x.best(0), NONE);
        // the latest that came, not the latest by DEP
        x = Plans.plan(1, 0, 15, 25, 0, 1, 0, 10);
        x.drop();
        due(x.of(0, 2), 15);

        Doc.says(3, "(nor its MARKS):");
        x = Plans.threes();
        x.mark(5, 0, 1);
        x.mark(0, 5, 2);
        x.mark(5, 4, 2);
        x.mark(0, 4, 2);
        due(x.count(1), 4);
        x.drop();
        due(x.count(1), 1);
        Plans.fly(x, 1, 0, 20, 30);
        for (int f = 0; f < 5; f++) {
            due(x.mark(5, f, 0) + x.mark(f, 5, 0), 0);
        }
        due(x.mark(0, 4, 2), 2);
        Twins.changesNothing(Plans::busy, y -> {
            Plans.fly(y, 0, 1, 1, 2);
            y.mark(6, 1, 1);
            y.mark(1, 6, 1);
            y.drop();
        });

        Doc.says(3, "how many there are.");
        x = Twins.made(Plans::full);
        for (int left = 6; left >= 0; left--) {
            due(x.drop(), left);
            due(x.count(0), left);
        }

        Doc.says(3, "STATE: none.");
        due(x.drop(), STATE);
        due(x.count(0), 0);
        due(x.fly(0, 1, 2, 3), 0);
        Twins.refused(y -> { }, y -> y.drop(), STATE);
    }

    private static void of() {
        Doc.says(4, "Of a FLIGHT: FROM (what 0), TO (1), DEP (2), ARR (3);");
        CrewPairings x = Plans.plan(3, 0, 0, 299, 1, 2, 77, 78);
        int[] want = {3, 0, 0, 299};
        int[] other = {1, 2, 77, 78};
        for (int what = 0; what < 4; what++) {
            due(x.of(0, what), want[what]);
            due(x.of(1, what), other[what]);
        }

        Doc.says(4, "who FOLLOWS by a SIT (4; bits),");
        // behind 0: 1 by a gap of 2, 2 of 3, 3 of 4, 4 of 5, 5 of 19, 6 of 20
        x = Plans.plan(0, 1, 0, 10, 1, 0, 12, 50, 1, 0, 13, 50, 1, 0, 14, 50, 1, 0, 15, 50, 1, 0, 29, 50, 1, 0, 30, 50);
        due(x.of(0, 4), 4 + 8 + 16 + 32);
        due(x.of(6, 4), 0);
        // numbers ahead of its own, too; marks don't matter
        CrewPairings z = Plans.plan(1, 0, 13, 50, 1, 0, 30, 50, 0, 1, 0, 10);
        due(z.of(2, 4), 1);
        z.mark(2, 0, 2);
        due(z.of(2, 4), 1);
        Doc.says(4, "by a REST (5),");
        due(x.of(0, 5), 64);
        due(x.of(6, 5), 0);
        due(z.of(2, 5), 2);
        Doc.says(4, "by a TIGHT one (6).");
        due(x.of(0, 6), 4 + 8);
        due(x.of(6, 6), 0);
        due(z.of(2, 6), 1);
        x.fee(4, 0);
        due(x.of(0, 6), 0);

        Doc.says(4, "BAD.");
        for (int f : new int[] {-1, 6, 7, LOW, HIGH}) {
            Twins.refused(y -> y.of(f, 0), BAD);
            Twins.refused(y -> y.of(f, 4), BAD);
        }
        for (int what : new int[] {-1, 7, LOW, HIGH}) {
            Twins.refused(y -> y.of(0, what), BAD);
        }
        due(new CrewPairings().of(0, 0), BAD);
    }

    private static void shift() {
        Doc.says(5, "DEP and ARR of a FLIGHT become these:");
        CrewPairings x = Plans.calm();
        due(x.best(0), 35);
        x.shift(1, 16, 20);
        due(x.of(1, 2), 16);
        due(x.of(1, 3), 20);
        due(x.of(1, 0) * 10 + x.of(1, 1), 10);
        due(x.best(0), 30);
        due(x.of(0, 2) * 100 + x.of(0, 3), 10);
        Doc.says(5, "what DEP was.");
        due(x.shift(1, 298, 299), 16);
        due(x.shift(1, 0, 1), 298);
        due(x.shift(1, 0, 299), 0);
        // marks stay
        x.mark(0, 1, 2);
        x.shift(0, 4, 5);
        due(x.count(1), 1);
        Twins.changesNothing(Plans::busy, y -> {
            due(y.shift(2, 100, 110), 26);
            due(y.shift(2, 26, 36), 100);
        });

        Doc.says(5, "BAD.");
        for (int f : new int[] {-1, 6, 7, LOW, HIGH}) {
            Twins.refused(y -> y.shift(f, 1, 2), BAD);
        }
        int[][] times = {{-1, 3}, {LOW, 3}, {0, 300}, {0, HIGH}, {5, 5}, {6, 5}, {0, 0}, {299, 299}, {300, 301}, {3, -1}};
        for (int[] t : times) {
            Twins.refused(y -> y.shift(1, t[0], t[1]), BAD);
        }
        due(new CrewPairings().shift(0, 1, 2), BAD);
    }

    private static void kind() {
        Doc.says(6, "KIND, FIGURE of an AIRPORT become these:");
        CrewPairings x = new CrewPairings();
        for (int k = 0; k < 6; k++) {
            for (int figure = 0; figure < 10; figure++) {
                x.kind(figure % 4, k, figure);
                due(x.told(figure % 4, 0) * 10 + x.told(figure % 4, 1), k * 10 + figure);
            }
        }
        Doc.says(6, "10 times what KIND was, and what FIGURE was.");
        x = new CrewPairings();
        for (int a = 0; a < 4; a++) {
            due(x.kind(a, 5, 9), 0);
            due(x.kind(a, 0, 7), 59);
            due(x.kind(a, 4, 0), 7);
            due(x.kind(a, a, a + 1), 40);
        }
        for (int a = 0; a < 4; a++) {
            due(x.kind(a, 0, 0), a * 10 + a + 1);
        }

        Doc.says(6, "BAD.");
        for (int a : NOT_OF_FOUR) {
            Twins.refused(y -> y.kind(a, 0, 0), BAD);
        }
        for (int k : new int[] {-1, 6, LOW, HIGH}) {
            Twins.refused(y -> y.kind(0, k, 0), BAD);
        }
        for (int figure : new int[] {-1, 10, LOW, HIGH}) {
            Twins.refused(y -> y.kind(0, 0, figure), BAD);
        }
    }

    private static void told() {
        Doc.says(7, "Of an AIRPORT: KIND (what 0), FIGURE (1), SIT (2), REST (3), LEGS (4), SPAN (5), DUTIES (6).");
        int[][] want = {{0, 8, 3, 20, 3, 40, 3}, {1, 8, 5, 28, 3, 32, 3}, {2, 8, 2, 20, 4, 48, 3}, {3, 8, 5, 23, 2, 32, 3},
            {4, 8, 1, 12, 4, 58, 2}, {5, 8, 12, 20, 2, 40, 2}};
        for (int k = 0; k < 6; k++) {
            CrewPairings x = new CrewPairings();
            x.kind(k % 4, k, 8);
            for (int what = 0; what < 7; what++) {
                due(x.told(k % 4, what), want[k][what]);
            }
            due(x.told((k + 1) % 4, 3), 20);
        }

        Doc.says(7, "BAD.");
        for (int a : NOT_OF_FOUR) {
            Twins.refused(y -> y.told(a, 0), BAD);
        }
        for (int what : new int[] {-1, 7, LOW, HIGH}) {
            Twins.refused(y -> y.told(0, what), BAD);
        }
    }

    private static void taken() {
        Doc.says(8, "An AIRPORT taken for one of KIND k, or one under that: its SPAN.");
        CrewPairings x = new CrewPairings();
        // whatever it is taken for, the SPAN is its own
        int[][] same = {{0, 0, 40}, {1, 0, 33}, {1, 1, 33}, {2, 0, 47}, {2, 2, 47}, {3, 0, 33}, {3, 1, 33}, {3, 3, 33},
            {4, 0, 57}, {4, 2, 57}, {4, 4, 57}, {5, 0, 40}, {5, 5, 40}};
        for (int[] s : same) {
            x.kind(3, s[0], 7);
            due(x.taken(3, s[1]), s[2]);
        }

        Doc.says(8, "BAD;");
        for (int a : NOT_OF_FOUR) {
            Twins.refused(y -> y.taken(a, 0), BAD);
        }
        for (int k : new int[] {-1, 6, LOW, HIGH}) {
            Twins.refused(y -> y.taken(0, k), BAD);
        }

        Doc.says(8, "-13.");
        int[][] unlike = {{0, 1}, {0, 2}, {0, 3}, {0, 4}, {0, 5}, {1, 2}, {1, 3}, {1, 4}, {1, 5}, {2, 1}, {2, 3}, {2, 4},
            {2, 5}, {3, 2}, {3, 4}, {3, 5}, {4, 1}, {4, 3}, {4, 5}, {5, 1}, {5, 2}, {5, 3}, {5, 4}};
        for (int[] u : unlike) {
            Twins.refused(y -> y.kind(3, u[0], 7), y -> y.taken(3, u[1]), UNLIKE);
        }
    }

    private static void base() {
        Doc.says(9, "BASES become these (0 .. 15):");
        CrewPairings x = Plans.calm();
        for (int bases = 0; bases <= 15; bases++) {
            x.base(bases);
            due(x.count(5), bases);
            due(x.pairings(NONE), bases & 1);
        }
        Doc.says(9, "which they were.");
        due(x.base(0), 15);
        due(x.base(8), 0);
        due(x.base(8), 8);
        due(new CrewPairings().base(15), 1);

        Doc.says(9, "BAD.");
        for (int bases : new int[] {-1, 16, 17, LOW, HIGH}) {
            Twins.refused(y -> y.base(bases), BAD);
        }
    }

    private static void fee() {
        int[] first = {10, 1, 5, 20, 2};
        int[] tops = {99, 9, 99, 99, 20};
        CrewPairings x = new CrewPairings();
        Doc.says(10, "A FEE becomes v:");
        for (int which = 0; which < 5; which++) {
            for (int v = 0; v <= tops[which]; v++) {
                if (v % 7 == 0 || v >= tops[which] - 1) x.fee(which, v);
                if (v % 7 == 0 || v >= tops[which] - 1) due(x.count(10 + which), v);
            }
        }
        Doc.says(10, "what it was.");
        x = new CrewPairings();
        for (int which = 0; which < 5; which++) {
            due(x.fee(which, tops[which]), first[which]);
            due(x.fee(which, 0), tops[which]);
            due(x.fee(which, which + 3), 0);
        }
        for (int which = 0; which < 5; which++) {
            due(x.fee(which, 0), which + 3);
        }

        Doc.says(10, "BAD.");
        for (int which : new int[] {-1, 5, 10, LOW, HIGH}) {
            Twins.refused(y -> y.fee(which, 0), BAD);
        }
        for (int which = 0; which < 5; which++) {
            int one = which;
            for (int v : new int[] {-1, tops[which] + 1, LOW, HIGH}) {
                Twins.refused(y -> y.fee(one, v), BAD);
            }
        }
    }

    private static void mark() {
        Doc.says(11, "MARK of two becomes m (0 .. 2):");
        CrewPairings x = Plans.six();
        x.mark(5, 4, 2);
        due(x.pairing(48, 0), 33);
        x.mark(4, 5, 1);
        due(x.pairing(48, 0), 33);
        due(x.count(1), 2);
        x.mark(4, 5, 2);
        due(x.pairing(48, 0), NONE);
        x.mark(4, 5, 0);
        due(x.pairing(48, 0), 33);
        due(x.count(1), 1);
        Doc.says(11, "which it was.");
        due(x.mark(0, 1, 1), 0);
        due(x.mark(0, 1, 1), 1);
        due(x.mark(0, 1, 2), 1);
        due(x.mark(0, 1, 0), 2);
        due(x.mark(0, 1, 0), 0);
        // g behind f is another thing than f behind g
        due(x.mark(4, 5, 1), 0);
        due(x.mark(5, 4, 1), 2);

        Doc.says(11, "BAD:");
        for (int f : new int[] {-1, 6, 7, LOW, HIGH}) {
            Twins.refused(y -> y.mark(f, 1, 1), BAD);
            Twins.refused(y -> y.mark(1, f, 1), BAD);
            Twins.refused(y -> y.mark(f, f, 1), BAD);
        }
        for (int m : new int[] {-1, 3, LOW, HIGH}) {
            Twins.refused(y -> y.mark(4, 5, m), BAD);
        }
        Doc.says(11, "also the same.");
        for (int f = 0; f < 6; f++) {
            int same = f;
            for (int m = 0; m <= 2; m++) {
                int mark = m;
                Twins.refused(y -> y.mark(same, same, mark), BAD);
            }
        }
    }
}
