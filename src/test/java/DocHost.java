/** The document's promises 37 to 40: the host. */
final class DocHost extends DocPart {
    private DocHost() { }

    static void run() {
        sheet();
        sheetRefuses();
        put();
        item();
        copy();
        copyRefuses();
    }

    private static void sheet() {
        Doc.says(37, "A SHEET becomes a row of n of a sort,");
        CrewPairings x = new CrewPairings();
        for (int sort = 0; sort < 2; sort++) {
            for (int n : new int[] {0, 1, 39, 40}) {
                due(x.sheet(sort, sort, n), 1);
                due(x.item(sort, n), NO);
                if (n > 0) due(x.item(sort, n - 1), 0);
            }
        }
        Doc.says(37, "all 0,");
        for (int i = 0; i < 40; i++) {
            x.put(1, i, -1);
        }
        due(x.sheet(1, 0, 40), 1);
        for (int i = 0; i < 40; i++) {
            due(x.item(1, i), 0);
        }
        due(x.put(1, 3, 1L << 40), 1);
        due(x.item(1, 3), 1L << 40);
        // shorter, then longer: what stood there is gone
        x.sheet(1, 0, 2);
        due(x.item(1, 3), NO);
        x.sheet(1, 0, 4);
        due(x.item(1, 3), 0);
        // others stay
        x.put(1, 0, 5);
        x.sheet(0, 1, 40);
        x.sheet(2, 1, 40);
        due(x.item(1, 0), 5);

        Doc.says(37, "or missing");
        for (int sheet = 0; sheet < 4; sheet++) {
            x.sheet(sheet, sheet % 2, 3);
            due(x.sheet(sheet, -1, 0), 1);
            due(x.item(sheet, 0), NO);
            due(x.put(sheet, 0, 1), MISSING);
        }
        Doc.says(37, "(sort -1: n does not matter): 1.");
        for (int n : new int[] {0, 1, 40, 41, -1, LOW, HIGH}) {
            x.sheet(0, 0, 3);
            due(x.sheet(0, -1, n), 1);
            due(x.item(0, 0), NO);
            due(x.put(0, 0, 1), MISSING);
        }
        due(x.sheet(0, -1, 0), 1);
    }

    private static void sheetRefuses() {
        Doc.says(37, "BAD: no such SHEET,");
        for (int sheet : NOT_OF_FOUR) {
            Twins.refused(y -> y.sheet(sheet, 0, 1), BAD);
            Twins.refused(y -> y.sheet(sheet, -1, 0), BAD);
        }
        Doc.says(37, "sort;");
        for (int sort : new int[] {-2, 2, 3, LOW, HIGH}) {
            Twins.refused(y -> y.sheet(0, sort, 1), BAD);
            Twins.refused(y -> y.sheet(2, sort, 0), BAD);
        }
        Doc.says(37, "n above 40;");
        for (int n : new int[] {41, 42, HIGH}) {
            Twins.refused(y -> y.sheet(0, 0, n), BAD);
            Twins.refused(y -> y.sheet(2, 1, n), BAD);
        }
        Doc.says(37, "-14.");
        for (int n : new int[] {-1, -2, LOW}) {
            Twins.refused(y -> y.sheet(0, 0, n), TOO_SMALL);
            Twins.refused(y -> y.sheet(2, 1, n), TOO_SMALL);
        }
    }

    private static void put() {
        Doc.says(38, "Item i of a SHEET becomes v");
        CrewPairings x = new CrewPairings();
        x.sheet(0, 0, 40);
        x.sheet(1, 1, 40);
        for (int i = 0; i < 40; i++) {
            due(x.put(0, i, 100 - i) + x.put(1, i, i - 100), 2);
        }
        for (int i = 0; i < 40; i++) {
            due(x.item(0, i), 100 - i);
            due(x.item(1, i), i - 100);
        }
        Doc.says(38, "(of ints its lowest 32 bits): 1.");
        long[] values = {0, 1, -1, HIGH, LOW, 1L + HIGH, LOW - 1L, 1L << 32, (1L << 32) + 5, (5L << 32) - 1,
            Long.MAX_VALUE, Long.MIN_VALUE, 0x80000000L, 0xFFFFFFFFL};
        for (int i = 0; i < values.length; i++) {
            due(x.put(0, 39 - i, values[i]), 1);
            due(x.put(1, 39 - i, values[i]), 1);
        }
        for (int i = 0; i < values.length; i++) {
            due(x.item(0, 39 - i), values[i]);
            due(x.item(1, 39 - i), (int) values[i]);
        }
        due(x.item(0, 0) + x.item(1, 0), 0);

        Doc.says(38, "BAD: no such SHEET;");
        for (int sheet : NOT_OF_FOUR) {
            Twins.refused(y -> y.put(sheet, 0, 1), BAD);
        }
        Doc.says(38, "-11;");
        for (int i : new int[] {0, -1, 40}) {
            Twins.refused(y -> y.put(2, i, 1), MISSING);
        }
        Doc.says(38, "-12.");
        for (int i : new int[] {-1, 6, 7, 39, 40, LOW, HIGH}) {
            Twins.refused(y -> y.put(0, i, 1), OUTSIDE);
        }
        Twins.refused(y -> y.put(1, 3, 1), OUTSIDE);
        x.sheet(0, 0, 0);
        due(x.put(0, 0, 1), OUTSIDE);
    }

    private static void item() {
        Doc.says(39, "Item i of a SHEET.");
        CrewPairings x = new CrewPairings();
        for (int sheet = 0; sheet < 4; sheet++) {
            Plans.row(x, sheet, sheet % 2, sheet * 10 + 1, sheet * 10 + 2, -5);
        }
        for (int sheet = 0; sheet < 4; sheet++) {
            due(x.item(sheet, 0), sheet * 10 + 1);
            due(x.item(sheet, 1), sheet * 10 + 2);
            due(x.item(sheet, 2), -5);
        }
        Doc.says(39, "NO: no such SHEET,");
        for (int sheet : NOT_OF_FOUR) {
            Twins.refused(y -> y.item(sheet, 0), NO);
        }
        Doc.says(39, "it is missing,");
        Twins.refused(y -> y.item(2, 0), NO);
        due(new CrewPairings().item(0, 0), NO);
        Doc.says(39, "no such item.");
        for (int i : new int[] {-1, 6, 39, 40, LOW, HIGH}) {
            Twins.refused(y -> y.item(0, i), NO);
        }
        due(Twins.made(Plans::busy).item(0, 5), 0);
        Twins.refused(y -> y.item(1, 3), NO);
        Twins.refused(y -> y.item(1, -1), NO);
    }

    /** The numbers of a sheet, put together as digits. */
    private static void holds(CrewPairings x, int sheet, int n, long want) {
        long digits = 0;
        for (int i = 0; i < n; i++) {
            digits = digits * 10 + x.item(sheet, i);
        }
        due(digits, want);
    }

    private static CrewPairings rows() {
        CrewPairings x = new CrewPairings();
        Plans.row(x, 0, 0, 1, 2, 3, 4, 5);
        Plans.row(x, 1, 0, 7, 8, 9);
        Plans.row(x, 2, 1, 1, 2, 3);
        Plans.row(x, 3, 1, 4, 5, 6);
        return x;
    }

    private static void copy() {
        Doc.says(40, "n numbers of a SHEET, from item i on, come to another one's item j on");
        CrewPairings x = rows();
        due(x.copy(0, 3, 1, 1, 2), 2);
        holds(x, 1, 3, 745);
        holds(x, 0, 5, 12345);
        due(x.copy(1, 0, 0, 0, 3), 3);
        holds(x, 0, 5, 74545);
        due(x.copy(2, 1, 3, 0, 2), 2);
        holds(x, 3, 3, 236);
        due(x.item(1, 3), NO);
        // none, at the very end
        due(x.copy(0, 5, 1, 3, 0), 0);
        due(x.copy(0, 0, 1, 0, 0), 0);
        holds(x, 1, 3, 745);
        Doc.says(40, "(as they were): n.");
        // also over itself
        x = rows();
        due(x.copy(0, 0, 0, 1, 4), 4);
        holds(x, 0, 5, 11234);
        x = rows();
        due(x.copy(0, 1, 0, 0, 4), 4);
        holds(x, 0, 5, 23455);
        x = rows();
        due(x.copy(0, 0, 0, 0, 5), 5);
        holds(x, 0, 5, 12345);
        x.put(0, 0, Long.MIN_VALUE + 1);
        due(x.copy(0, 0, 1, 2, 1), 1);
        due(x.item(1, 2), Long.MIN_VALUE + 1);
    }

    /** In busy() sheet 0 has 6 longs, 1 has 3 ints, 2 is missing, 3 has 9 longs. */
    private static void copyRefuses() {
        Doc.says(40, "BAD: no such SHEET;");
        for (int sheet : NOT_OF_FOUR) {
            Twins.refused(y -> y.copy(sheet, 0, 0, 0, 1), BAD);
            Twins.refused(y -> y.copy(0, 0, sheet, 0, 1), BAD);
            Twins.refused(y -> y.copy(sheet, 0, sheet, 0, 0), BAD);
        }
        Doc.says(40, "-11;");
        Twins.refused(y -> y.copy(0, 0, 2, 0, 1), MISSING);
        Twins.refused(y -> y.copy(2, 0, 0, 0, 1), MISSING);
        Twins.refused(y -> y.copy(2, 0, 2, 0, 0), MISSING);
        Doc.says(40, "-13: they are of unlike sorts;");
        Twins.refused(y -> y.copy(0, 0, 1, 0, 1), UNLIKE);
        Twins.refused(y -> y.copy(1, 0, 3, 0, 1), UNLIKE);
        Twins.refused(y -> y.copy(1, 0, 3, 0, 0), UNLIKE);
        Doc.says(40, "-12");
        int[][] outside = {{6, 0, 1}, {0, 9, 1}, {-1, 0, 1}, {0, -1, 1}, {5, 0, 2}, {0, 8, 2}, {0, 0, 7}, {7, 0, 0},
            {0, 10, 0}, {-1, 0, 0}, {0, -1, 0}, {HIGH, 0, 1}, {0, HIGH, 1}, {LOW, 0, 1}, {0, LOW, 1}, {HIGH, 0, HIGH},
            {0, 0, HIGH}, {1, 1, HIGH}, {LOW, LOW, HIGH}, {HIGH, HIGH, 0}};
        for (int[] o : outside) {
            Twins.refused(y -> y.copy(0, o[0], 3, o[1], o[2]), OUTSIDE);
        }
        due(Twins.made(Plans::busy).copy(0, 0, 3, 3, 6), 6);
        due(Twins.made(Plans::busy).copy(0, 0, 3, 4, 6), OUTSIDE);
        due(Twins.made(Plans::busy).copy(3, 3, 0, 0, 6), 6);
        due(Twins.made(Plans::busy).copy(3, 4, 0, 0, 6), OUTSIDE);
        Doc.says(40, "(also with n below 0).");
        for (int n : new int[] {-1, -5, LOW}) {
            Twins.refused(y -> y.copy(0, 0, 3, 0, n), OUTSIDE);
            Twins.refused(y -> y.copy(0, 5, 3, 5, n), OUTSIDE);
            Twins.refused(y -> y.copy(0, 6, 0, 6, n), OUTSIDE);
        }
    }
}
