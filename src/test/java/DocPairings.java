/** The document's promises 12 to 15: pairings. */
final class DocPairings extends DocPart {
    private DocPairings() { }

    static void run() {
        follows();
        pairing();
        pairings();
        had();
    }

    private static void follows() {
        CrewPairings x = Plans.plan(0, 1, 0, 10, 1, 0, 12, 50, 1, 0, 13, 50, 1, 0, 29, 50, 1, 0, 30, 50, 2, 0, 30, 50);
        Doc.says(12, "How g FOLLOWS f: 0 not,");
        due(x.follows(0, 1), 0);
        due(x.follows(0, 5), 0);
        for (int f = 1; f < 6; f++) {
            due(x.follows(f, 0), 0);
        }
        Doc.says(12, "1 by a SIT,");
        due(x.follows(0, 2), 1);
        due(x.follows(0, 3), 1);
        Doc.says(12, "2 by a REST.");
        due(x.follows(0, 4), 2);
        x.mark(0, 4, 2);
        due(x.follows(0, 4), 2);

        Doc.says(12, "BAD:");
        for (int f : new int[] {-1, 6, 7, LOW, HIGH}) {
            Twins.refused(y -> y.follows(f, 1), BAD);
            Twins.refused(y -> y.follows(1, f), BAD);
            Twins.refused(y -> y.follows(f, f), BAD);
        }
        Doc.says(12, "also the same.");
        for (int f = 0; f < 6; f++) {
            int same = f;
            Twins.refused(y -> y.follows(same, same), BAD);
        }
    }

    private static void pairing() {
        Doc.says(13, "Of a set: COST (what 0; NONE: it is no PAIRING),");
        CrewPairings x = Plans.six();
        due(x.pairing(3, 0), 10 + 22 + 5);
        due(x.pairing(51, 0), 20 + 90 + 5 + 5);
        due(x.pairing(15, 0), NONE);
        due(x.pairing(1, 0), NONE);
        due(x.pairing(63, 0), NONE);
        Doc.says(13, "DUTIES (1; NONE),");
        due(x.pairing(3, 1), 1);
        due(x.pairing(51, 1), 2);
        due(x.pairing(15, 1), NONE);
        Doc.says(13, "TIGHT ones (2; NONE),");
        // the gap of 3 behind 2, of 4 behind 0 and behind 4 are tight
        due(x.pairing(3, 2), 1);
        due(x.pairing(51, 2), 2);
        due(x.pairing(9, 2), 0);
        due(x.pairing(15, 2), NONE);
        Doc.says(13, "BASE (3; NONE).");
        due(x.pairing(3, 3), 0);
        due(x.pairing(6, 3), NONE);
        x.base(3);
        due(x.pairing(6, 3), 1);
        due(x.pairing(3, 3), 0);
        // its mark makes a set no pairing: NONE for all
        x.mark(0, 1, 2);
        for (int what = 0; what < 4; what++) {
            due(x.pairing(3, what), NONE);
        }

        Doc.says(13, "BAD: a set with a FLIGHT that isn't there,");
        for (int set : new int[] {64, 65, 67, 127, 128, -1, -3, LOW, LOW + 3, HIGH}) {
            Twins.refused(y -> y.pairing(set, 0), BAD);
        }
        due(new CrewPairings().pairing(1, 0), BAD);
        x = Twins.made(Plans::full);
        due(x.pairing(127, 0), NONE);
        due(x.pairing(128, 0), BAD);
        Doc.says(13, "none;");
        for (int what = 0; what < 4; what++) {
            int one = what;
            Twins.refused(y -> y.pairing(0, one), BAD);
        }
        due(new CrewPairings().pairing(0, 0), BAD);
        Doc.says(13, "what.");
        for (int what : new int[] {-1, 4, LOW, HIGH}) {
            Twins.refused(y -> y.pairing(3, what), BAD);
            Twins.refused(y -> y.pairing(15, what), BAD);
        }
    }

    private static void pairings() {
        Doc.says(14, "How many PAIRINGS (k NONE),");
        CrewPairings x = Plans.six();
        due(x.pairings(NONE), 7);
        due(new CrewPairings().pairings(NONE), 0);
        due(Plans.lonely().pairings(NONE), 0);
        due(Plans.threes().pairings(NONE), 9);
        Doc.says(14, "the k-th by bits (from 0).");
        int[] sets = {3, 9, 12, 48, 51, 57, 60};
        for (int k = 0; k < 7; k++) {
            due(x.pairings(k), sets[k]);
        }
        x.mark(2, 3, 2);
        int[] left = {3, 9, 48, 51, 57};
        due(x.pairings(NONE), 5);
        for (int k = 0; k < 5; k++) {
            due(x.pairings(k), left[k]);
        }
        // the greatest set of all
        x = Plans.plan(0, 1, 0, 1, 1, 0, 6, 7, 0, 1, 30, 31, 1, 0, 36, 37, 0, 1, 60, 61, 1, 2, 66, 67, 2, 0, 72, 73);
        due(x.pairing(127, 1), 3);
        due(x.pairings(x.pairings(NONE) - 1), 127);

        Doc.says(14, "-12.");
        Twins.refused(y -> Plans.fly(y, 0, 1, 0, 10, 1, 0, 15, 25), y -> y.pairings(1), OUTSIDE);
        due(Plans.calm().pairings(0), 3);
        for (int k : new int[] {-2, -3, 127, 128, LOW, HIGH}) {
            Twins.refused(y -> y.pairings(k), OUTSIDE);
        }
        due(Plans.six().pairings(6), 60);
        due(Plans.six().pairings(7), OUTSIDE);
        due(new CrewPairings().pairings(0), OUTSIDE);
        due(Plans.lonely().pairings(0), OUTSIDE);
    }

    private static void had() {
        Doc.says(15, "Of a set: what it COSTS (what 0; NONE: it isn't HAD),");
        CrewPairings x = Plans.six();
        due(x.had(3, 0), 37);
        due(x.had(1, 0), 37 + 20);
        due(x.had(33, 0), 120 + 40);
        due(x.had(15, 0), NONE);
        due(x.had(63, 0), NONE);
        Doc.says(15, "BY which (1; NONE).");
        due(x.had(3, 1), 3);
        due(x.had(1, 1), 3);
        due(x.had(33, 1), 51);
        due(x.had(15, 1), NONE);
        x.mark(0, 1, 2);
        due(x.had(1, 1), 9);
        due(x.had(3, 1), NONE);
        due(x.had(3, 0), NONE);

        Doc.says(15, "BAD as of pairing().");
        for (int set : new int[] {0, 64, 65, 67, 127, 128, -1, -3, LOW, LOW + 3, HIGH}) {
            Twins.refused(y -> y.had(set, 0), BAD);
        }
        for (int what : new int[] {-1, 2, LOW, HIGH}) {
            Twins.refused(y -> y.had(3, what), BAD);
            Twins.refused(y -> y.had(15, what), BAD);
        }
        due(new CrewPairings().had(0, 0), BAD);
        due(new CrewPairings().had(1, 0), BAD);
    }
}
