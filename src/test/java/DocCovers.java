/** The document's promises 16 to 22: covers, prices. */
final class DocCovers extends DocPart {
    private DocCovers() { }

    static void run() {
        best();
        bestOf();
        bound();
        price();
        branch();
        tree();
        proves();
        provesRefuses();
    }

    private static void best() {
        Doc.says(16, "BEST: TOTAL (what 0; NONE: there is no COVER),");
        due(Plans.six().best(0), 109);
        due(Plans.fan().best(0), 98);
        due(Plans.lonely().best(0), NONE);
        due(new CrewPairings().best(0), 0);
        Doc.says(16, "how many sets (1; NONE),");
        due(Plans.six().best(1), 3);
        due(Plans.singles().best(1), 7);
        due(Plans.fan().best(1), 2);
        due(Plans.chain().best(1), 1);
        due(Plans.lonely().best(1), NONE);
        Doc.says(16, "how many are flown along (2; NONE).");
        due(Plans.six().best(2), 0);
        due(Plans.fan().best(2), 1);
        due(Plans.singles().best(2), 7);
        due(Plans.lonely().best(2), NONE);
        // by a mark the cover goes, and comes again
        CrewPairings x = Plans.calm();
        x.mark(0, 1, 2);
        for (int what = 0; what < 3; what++) {
            due(x.best(what), NONE);
        }
        x.mark(0, 1, 1);
        due(x.best(0), 35);

        Doc.says(16, "BAD.");
        for (int what : new int[] {-1, 3, LOW, HIGH}) {
            Twins.refused(y -> y.best(what), BAD);
            Twins.refused(DocPart::alone, y -> y.best(what), BAD);
        }
    }

    private static void bestOf() {
        Doc.says(17, "The set of BEST with a FLIGHT (what 0; NONE: there is no COVER),");
        int[] sets = {3, 3, 12, 12, 48, 48};
        for (int f = 0; f < 6; f++) {
            due(Plans.six().bestOf(f, 0), sets[f]);
        }
        due(Plans.fan().bestOf(0, 0), 1);
        due(Plans.fan().bestOf(1, 0), 6);
        for (int f = 0; f < 7; f++) {
            due(Plans.singles().bestOf(f, 0), 1 << f);
        }
        due(Plans.lonely().bestOf(0, 0), NONE);
        // also when there was one before
        CrewPairings x = Plans.calm();
        due(x.bestOf(1, 0), 3);
        x.mark(0, 1, 2);
        due(x.bestOf(1, 0), NONE);
        due(x.bestOf(0, 1), NONE);
        Doc.says(17, "BY which PAIRING (1; NONE).");
        due(Plans.six().bestOf(3, 1), 12);
        due(Plans.fan().bestOf(0, 1), 5);
        due(Plans.fan().bestOf(2, 1), 6);
        due(Plans.lonely().bestOf(0, 1), NONE);

        Doc.says(17, "BAD.");
        for (int f : NOT_OF_SIX) {
            Twins.refused(y -> y.bestOf(f, 0), BAD);
        }
        for (int what : NOT_OF_TWO) {
            Twins.refused(y -> y.bestOf(0, what), BAD);
            Twins.refused(DocPart::alone, y -> y.bestOf(0, what), BAD);
        }
        Twins.refused(DocPart::alone, y -> y.bestOf(1, 0), BAD);
        due(new CrewPairings().bestOf(0, 0), BAD);
    }

    private static void bound() {
        Doc.says(18, "BOUND: part 0 above, 1 below the line,");
        due(Plans.halves().bound(0), 353);
        due(Plans.halves().bound(1), 2);
        due(Plans.six().bound(0), 109);
        due(Plans.six().bound(1), 1);
        Doc.says(18, "in lowest terms.");
        // its prices have halves, their sum none
        due(Plans.of(Plans.FOUND[2]).bound(0), 77);
        due(Plans.of(Plans.FOUND[2]).bound(1), 1);
        due(new CrewPairings().bound(0), 0);
        due(new CrewPairings().bound(1), 1);
        // 0 in lowest terms, with flights
        CrewPairings x = Plans.calm();
        x.fee(0, 0);
        x.fee(1, 0);
        due(x.bound(0), 0);
        due(x.bound(1), 1);

        Doc.says(18, "NO:");
        Twins.refused(DocPart::alone, y -> y.bound(0), NO);
        Twins.refused(DocPart::alone, y -> y.bound(1), NO);
        Doc.says(18, "also part.");
        for (int part : NOT_OF_TWO) {
            Twins.refused(y -> y.bound(part), NO);
            Twins.refused(DocPart::alone, y -> y.bound(part), NO);
            due(new CrewPairings().bound(part), NO);
        }
    }

    private static void price() {
        Doc.says(19, "PRICE of the BOUND of a FLIGHT: likewise.");
        long[] above = {50, 0, 41, 63, 83, 0, 3};
        long[] below = {1, 1, 2, 1, 2, 1, 2};
        for (int f = 0; f < 7; f++) {
            due(Plans.halves().price(f, 0), above[f]);
            due(Plans.halves().price(f, 1), below[f]);
        }
        due(Plans.calm().price(0, 0), 35);
        due(Plans.calm().price(1, 0), 0);
        due(Plans.calm().price(1, 1), 1);

        Doc.says(19, "NO:");
        Twins.refused(DocPart::alone, y -> y.price(0, 0), NO);
        Twins.refused(DocPart::alone, y -> y.price(0, 1), NO);
        for (int part : NOT_OF_TWO) {
            Twins.refused(y -> y.price(0, part), NO);
        }
        Doc.says(19, "also flight.");
        for (int f : NOT_OF_SIX) {
            Twins.refused(y -> y.price(f, 0), NO);
            Twins.refused(y -> y.price(f, 1), NO);
        }
        due(new CrewPairings().price(0, 0), NO);
    }

    private static void branch() {
        Doc.says(20, "BOUND, were two MARKED m (1, 2).");
        CrewPairings x = Plans.halves();
        CrewPairings y = Plans.halves();
        due(x.bound(0), 353);
        int[][] twos = {{0, 6}, {4, 5}, {3, 1}, {4, 6}, {0, 5}};
        for (int[] two : twos) {
            for (int m = 1; m <= 2; m++) {
                y.mark(two[0], two[1], m);
                for (int part = 0; part < 2; part++) {
                    due(x.branch(two[0], two[1], m, part), y.bound(part));
                }
            }
            y.mark(two[0], two[1], 0);
        }
        due(x.count(1), 0);
        due(x.bound(0), 353);
        due(x.branch(1, 0, 2, 0), 353);
        // another MARK instead of the one that is there
        x = Plans.calm();
        x.mark(0, 1, 2);
        due(x.branch(0, 1, 1, 0), 35);
        due(x.branch(0, 1, 1, 1), 1);
        due(x.branch(1, 0, 1, 0), NO);
        due(x.bound(0), NO);
        due(x.mark(0, 1, 2), 2);
        // with those that are there: 0 is in no pairing then
        x = Plans.fan();
        due(x.branch(0, 1, 2, 0), 78);
        x.mark(0, 2, 2);
        due(x.branch(0, 1, 2, 0), NO);
        due(x.branch(0, 2, 1, 0), NO);
        x.mark(1, 2, 2);
        due(x.branch(1, 2, 1, 0), NO);
        due(x.branch(0, 2, 1, 0), NO);
        Twins.changesNothing(Plans::busy, z -> z.branch(2, 3, 2, 0));
        Twins.changesNothing(Plans::busy, z -> z.branch(0, 3, 1, 1));

        Doc.says(20, "NO: a number,");
        for (int f : NOT_OF_SIX) {
            Twins.refused(z -> z.branch(f, 1, 2, 0), NO);
            Twins.refused(z -> z.branch(1, f, 2, 0), NO);
        }
        for (int m : new int[] {-1, 0, 3, LOW, HIGH}) {
            // flight 0 is never behind flight 1: a bound is there whatever the mark is
            Twins.refused(z -> z.branch(1, 0, m, 0), NO);
        }
        for (int part : NOT_OF_TWO) {
            Twins.refused(z -> z.branch(1, 0, 2, part), NO);
        }
        due(new CrewPairings().branch(0, 1, 1, 0), NO);
        Doc.says(20, "the same;");
        for (int f = 0; f < 6; f++) {
            int same = f;
            Twins.refused(z -> z.branch(same, same, 2, 0), NO);
            due(Plans.six().branch(f, f, 2, 1), NO);
        }
        Doc.says(20, "there is no BOUND then.");
        due(Plans.calm().branch(0, 1, 2, 0), NO);
        due(Plans.calm().branch(0, 1, 2, 1), NO);
        due(Plans.calm().branch(1, 0, 1, 0), NO);
        due(Plans.calm().branch(1, 0, 2, 0), 35);
        Twins.refused(z -> Plans.fly(z, 0, 1, 0, 10, 1, 0, 15, 25), z -> z.branch(0, 1, 2, 0), NO);
    }

    private static void tree() {
        Doc.says(21, "TREE: how many NODES (what 0),");
        due(Plans.calm().tree(0), 1);
        due(Plans.fan().tree(0), 3);
        due(Plans.halves().tree(0), 17);
        due(Plans.bush().tree(0), 39);
        due(new CrewPairings().tree(0), 1);
        Twins.changesNothing(Plans::busy, y -> y.tree(0));
        Twins.changesNothing(y -> Plans.fly(y, 0, 1, 0, 10, 0, 1, 2, 10, 1, 0, 20, 30), y -> y.tree(0));
        Doc.says(21, "how many of them are SHUT without a COVER (1).");
        due(Plans.calm().tree(1), 0);
        due(Plans.fan().tree(1), 2);
        due(Plans.lonely().tree(1), 1);
        due(Plans.bush().tree(1), 20);
        due(new CrewPairings().tree(1), 0);
        // prices that were asked ahead of it stay
        CrewPairings w = Plans.halves();
        due(w.price(0, 0), 50);
        due(w.tree(0), 17);
        due(w.price(0, 0), 50);
        due(w.bound(0), 353);
        // of another plan
        CrewPairings z = Plans.fan();
        due(z.tree(0) * 10 + z.tree(1), 32);
        z.mark(0, 2, 2);
        due(z.tree(0) * 10 + z.tree(1), 11);
        z.mark(0, 2, 0);
        due(z.tree(0) * 10 + z.tree(1), 32);
        // asked anew, it is the same
        CrewPairings x = Plans.halves();
        int lost = x.tree(1);
        x.branch(0, 5, 1, 0);
        due(x.tree(0), 17);
        due(x.tree(1), lost);

        Doc.says(21, "BAD;");
        for (int what : NOT_OF_TWO) {
            Twins.refused(y -> y.tree(what), BAD);
            Twins.refused(Plans::growThicket, y -> y.tree(what), BAD);
        }
        Doc.says(21, "DEAR.");
        Twins.refused(Plans::growThicket, y -> y.tree(0), DEAR);
        Twins.refused(Plans::growThicket, y -> y.tree(1), DEAR);
    }

    private static void proves(CrewPairings x, int n, int first, int proven, long... prices) {
        Plans.row(x, 0, 0, prices);
        due(x.proves(0, n, 0), first);
        due(x.proves(0, n, 1), proven);
    }

    private static void proves() {
        Doc.says(22, "PRICES told by a SHEET, in n-ths (n 1 .. 99):");
        proves(Plans.calm(), 1, NONE, 1, 35, 0);
        proves(Plans.calm(), 99, NONE, 1, 35 * 99, 0);
        proves(Plans.calm(), 99, NONE, 1, 7, 35 * 99 - 7);
        proves(Plans.calm(), 99, 3, 0, 35 * 99, 1);
        proves(Plans.calm(), 2, NONE, 0, 35, 0);
        proves(Plans.halves(), 2, NONE, 1, 100, 0, 41, 126, 83, 0, 3);
        proves(Plans.halves(), 4, NONE, 1, 200, 0, 82, 252, 166, 0, 6);

        Doc.says(22, "the first set (as bits) by which they aren't FAIR (what 0;");
        proves(Plans.calm(), 1, 1, 0, 56, 0);
        proves(Plans.calm(), 1, 2, 0, 0, 56);
        proves(Plans.calm(), 1, 1, 0, 56, 56);
        proves(Plans.calm(), 1, 3, 0, 55, 55);
        proves(Plans.six(), 1, 48, 0, 0, 0, 0, 0, 17, 17);
        proves(Plans.six(), 1, 12, 0, 0, 0, 40, 0, 17, 17);
        Doc.says(22, "NONE: they are),");
        proves(Plans.calm(), 1, NONE, 0, 0, 0);
        proves(Plans.calm(), 1, NONE, 0, 34, 0);
        proves(Plans.six(), 1, NONE, 1, 37, 0, 39, 0, 33, 0);
        Doc.says(22, "whether they are FAIR and come to the BOUND (1; 1, 0;");
        proves(Plans.calm(), 1, NONE, 1, 0, 35);
        proves(Plans.calm(), 1, NONE, 0, 0, 34);
        // they come to the BOUND, but aren't fair
        proves(Plans.fan(), 1, 1, 0, 61, 17, 0);
        proves(Plans.fan(), 1, 5, 0, 41, 37, 0);
        proves(Plans.fan(), 1, NONE, 1, 40, 38, 0);
        CrewPairings x = new CrewPairings();
        x.sheet(0, 1, 0);
        due(x.proves(0, 1, 0), NONE);
        due(x.proves(0, 1, 1), 1);
        Doc.says(22, "0, too, if there is no BOUND).");
        proves(Plans.lonely(), 1, NONE, 0, 0);
        proves(Plans.lonely(), 1, NONE, 0, 999999);
        x = Plans.calm();
        x.mark(0, 1, 2);
        proves(x, 1, NONE, 0, 35, 0);
    }

    /** In busy() there are 6 flights, sheet 2 is missing, 1 has 3 numbers, 3 has 9. */
    private static void provesRefuses() {
        Doc.says(22, "BAD: SHEET,");
        for (int sheet : NOT_OF_FOUR) {
            Twins.refused(y -> y.proves(sheet, 1, 0), BAD);
        }
        Doc.says(22, "n,");
        for (int n : new int[] {0, 100, -1, LOW, HIGH}) {
            Twins.refused(y -> y.proves(0, n, 0), BAD);
        }
        Doc.says(22, "what;");
        for (int what : NOT_OF_TWO) {
            Twins.refused(y -> y.proves(0, 1, what), BAD);
        }
        Doc.says(22, "-11;");
        Twins.refused(y -> y.proves(2, 1, 0), MISSING);
        Twins.refused(y -> y.proves(2, 99, 1), MISSING);
        due(new CrewPairings().proves(0, 1, 0), MISSING);
        Doc.says(22, "STATE: it tells of more or fewer FLIGHTS,");
        Twins.refused(y -> y.proves(1, 1, 0), STATE);
        Twins.refused(y -> y.proves(3, 1, 1), STATE);
        CrewPairings x = Plans.six();
        for (int n = 0; n <= 8; n++) {
            x.sheet(0, 0, n);
            due(x.proves(0, 1, 0), n == 6 ? NONE : STATE);
        }
        x.sheet(0, 0, 40);
        due(x.proves(0, 1, 0), STATE);
        Doc.says(22, "a number below 0");
        provesNot(-1, Integer.MIN_VALUE, Long.MIN_VALUE);
        proves(Plans.lonely(), 1, NONE, 0, 0);
        due(told(Plans.lonely(), 1, -1).proves(0, 1, 0), STATE);
        Doc.says(22, "or above 999999.");
        provesNot(1000000, 1L << 32, Long.MAX_VALUE);
        proves(Plans.lonely(), 1, NONE, 0, 999999);
        due(told(Plans.lonely(), 1, 1000000).proves(0, 1, 0), STATE);
    }

    /** With one of these numbers, at whichever place, it is no price. */
    private static void provesNot(long... numbers) {
        for (int i = 0; i < 6; i++) {
            int at = i;
            for (long v : numbers) {
                Twins.refused(y -> {
                    Plans.busy(y);
                    y.put(0, at, v);
                }, y -> y.proves(0, 1, at % 2), STATE);
            }
        }
    }
}
