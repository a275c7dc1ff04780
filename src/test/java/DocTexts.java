import java.util.function.Consumer;

/** The document's promises 29 to 36: texts; what was told. */
final class DocTexts extends DocPart {
    private DocTexts() { }

    static void run() {
        feed();
        text();
        tells();
        film();
        load();
        loadRefuses();
        image();
        back();
        count();
    }

    private static void feed() {
        Doc.says(29, "n bytes (1 .. 5),");
        for (int n = 0; n <= 6; n++) {
            due(new CrewPairings().feed(n, 1, 2, 3, 4, 5), n == 0 || n == 6 ? BAD : n);
        }
        Doc.says(29, "a, b, .. (all 0 .. 255,");
        due(new CrewPairings().feed(5, 0, 255, 0, 255, 0), 5);
        due(new CrewPairings().feed(5, 255, 0, 255, 0, 255), 5);
        fedNot(5, 5);
        Doc.says(29, "also those that are not asked),");
        due(new CrewPairings().feed(1, 0, 255, 0, 255, 0), 1);
        fedNot(1, 4);
        Doc.says(29, "come behind THE TAPE: how many it has.");
        CrewPairings x = new CrewPairings();
        due(x.feed(1, 'b', 0, 255, 0, 255), 1);
        due(x.feed(3, 'a', 's', 'e', 255, 0), 4);
        due(x.feed(2, ' ', '1', 0, 0, 0), 6);
        due(x.feed(1, '5', '5', '5', '5', '5'), 7);
        due(x.count(2), 7);
        due(x.feed(4, ';', 'f', 'e', 'e', 'e'), 11);
        due(x.feed(5, '1', ' ', '0', '0', '7'), 16);
        due(x.text(), 2);
        due(x.count(5), 15);
        due(x.count(11), 7);

        Doc.says(29, "BAD;");
        for (int n : new int[] {0, 6, -1, LOW, HIGH}) {
            Twins.refused(y -> y.feed(n, 1, 1, 1, 1, 1), BAD);
        }
        Twins.refused(y -> y.feed(2, 1, 256, 1, 1, 1), BAD);
        Twins.refused(y -> y.feed(2, 1, 1, 1, 1, -1), BAD);

        Doc.says(29, "FULL: they have no room.");
        for (int left = 0; left < 5; left++) {
            int room = left;
            Consumer<CrewPairings> ready = y -> Plans.feed(y, "base 5;".repeat(9).substring(0, 60 - room));
            for (int n = 1; n <= 5; n++) {
                int many = n;
                if (n > room) Twins.refused(ready, y -> y.feed(many, '1', '1', '1', '1', '1'), FULL);
                else due(Twins.made(ready).feed(n, '1', '1', '1', '1', '1'), 60 - room + n);
            }
        }
    }

    /** Of from .. to bytes, any one of the five that is no byte is refused. */
    private static void fedNot(int from, int to) {
        for (int n = from; n <= to; n++) {
            int many = n;
            for (int at = 0; at < 5; at++) {
                for (int b : new int[] {-1, 256, LOW, HIGH}) {
                    int[] bytes = {'1', '1', '1', '1', '1'};
                    bytes[at] = b;
                    Twins.refused(y -> y.feed(many, bytes[0], bytes[1], bytes[2], bytes[3], bytes[4]), BAD);
                }
            }
        }
    }

    private static void text() {
        Doc.says(30, "THE TAPE, which is empty then");
        CrewPairings x = new CrewPairings();
        due(Plans.text(x, "base 5"), 1);
        due(x.count(2), 0);
        due(x.text(), -100);
        Doc.says(30, "(by a FAULT, too), is a TEXT:");
        due(Plans.text(x, "base x"), -105);
        due(x.count(2), 0);
        due(x.text(), -100);
        // nothing is left of what stood there
        due(Plans.text(x, "base 5;base 6"), 2);
        due(Plans.text(x, "base 1"), 1);
        due(x.count(5), 1);
        due(Plans.text(x, "base"), -104);
        Doc.says(30, "how many CLAUSES were done;");
        due(Plans.text(x, "base 3;base 99;base 5"), 2);
        due(Plans.text(x, "base 99"), 0);
        due(Plans.text(x, "fly 0 1 0 10;fly 1 0 15 25;must 0 1;free 0 1;not 1 0"), 5);
        due(x.count(0) * 10 + x.count(1), 21);
        due(x.pairing(3, 0), 35);
        Doc.says(30, "-100 less the place of its FAULT.");
        String[] texts = {"?", "base ?", "base 3 ?", "base 3;?"};
        int[] places = {0, 5, 7, 7};
        for (int i = 0; i < texts.length; i++) {
            String words = texts[i];
            due(Plans.text(x, words), -100 - places[i]);
            Twins.changesNothing(y -> Plans.fly(y, 0, 1, 0, 10, 1, 0, 15, 25), y -> Plans.text(y, words));
        }
        due(Plans.text(x, "base 5;".repeat(8) + "base"), -160);
        due(Plans.text(x, "base 5;".repeat(8) + "bas?"), -156);
        due(x.count(5), 5);
    }

    private static void tells() {
        Doc.says(31, "TOLD: WRONG (what 0; NONE),");
        due(told(Plans.six(), 0, 3, 12, 48).tells(0, 0), NONE);
        due(told(Plans.six(), 0).tells(0, 0), NONE);
        due(told(Plans.chain(), 0, 15).tells(0, 0), NONE);
        due(told(Plans.six(), 0, 3, 15).tells(0, 0), 1);
        due(told(Plans.six(), 0, 3, 12, 3).tells(0, 0), 2);
        due(told(Plans.lonely(), 0, 1).tells(0, 0), 0);
        due(told(new CrewPairings(), 0, 1).tells(0, 0), 0);
        Doc.says(31, "its TOTAL (1; NONE: it is no COVER),");
        due(told(Plans.six(), 0, 3, 12, 48).tells(0, 1), 109);
        due(told(Plans.six(), 0, 12, 48).tells(0, 1), NONE);
        due(told(Plans.chain(), 0, 15).tells(0, 1), 45);
        due(told(Plans.six(), 0, 3, 12, 48, 3).tells(0, 1), NONE);
        due(told(new CrewPairings(), 0).tells(0, 1), 0);
        Doc.says(31, "how many are flown along (2; NONE).");
        due(told(Plans.six(), 0, 3, 12, 48).tells(0, 2), 0);
        due(told(Plans.six(), 0, 3, 12, 16, 32).tells(0, 2), 2);
        due(told(Plans.six(), 0, 12, 48).tells(0, 2), NONE);
        due(told(new CrewPairings(), 0).tells(0, 2), 0);

        Doc.says(31, "BAD: SHEET,");
        for (int sheet : NOT_OF_FOUR) {
            Twins.refused(y -> y.tells(sheet, 0), BAD);
        }
        Doc.says(31, "what;");
        for (int what : new int[] {-1, 3, LOW, HIGH}) {
            Twins.refused(y -> y.tells(0, what), BAD);
        }
        Doc.says(31, "-11;");
        for (int what = 0; what < 3; what++) {
            int one = what;
            Twins.refused(y -> y.tells(2, one), MISSING);
            due(new CrewPairings().tells(0, what), MISSING);
        }
        Doc.says(31, "BAD: it tells more than 7.");
        CrewPairings x = told(Plans.six(), 0, 1, 2, 4, 8, 16, 32, 99);
        due(x.tells(0, 0), 6);
        for (int n : new int[] {8, 9, 40}) {
            x.sheet(0, 1, n);
            for (int what = 0; what < 3; what++) {
                due(x.tells(0, what), BAD);
            }
        }
        Twins.refused(y -> y.tells(3, 0), BAD);
        Twins.refused(y -> y.tells(3, 2), BAD);
        // seven are fine
        x = Plans.plan(0, 1, 0, 5, 0, 1, 0, 5, 0, 1, 0, 5, 0, 1, 0, 5, 0, 1, 0, 5, 0, 1, 0, 5, 1, 0, 15, 20);
        due(told(x, 0, 1, 2, 4, 8, 16, 32, 64).tells(0, 1), 7 * 50);
        due(x.tells(0, 2), 7);
    }

    private static void film() {
        Doc.says(32, "A SHEET truly becomes the sets of BEST,");
        CrewPairings x = Plans.six();
        x.sheet(0, 1, 9);
        x.put(0, 5, 77);
        due(x.film(0), 3);
        long[] want = {3, 12, 48};
        for (int i = 0; i < 3; i++) {
            due(x.item(0, i), want[i]);
        }
        // truly: so many and no more
        due(x.item(0, 3), NO);
        due(x.item(0, 5), NO);
        due(x.put(0, 3, 1), OUTSIDE);
        due(x.film(3), 3);
        due(x.tells(3, 1), 109);
        Doc.says(32, "by their least FLIGHTS");
        // not as bits: {0, 4, 5, 6}, then {1, 2, 3}
        x = Plans.plan(0, 1, 0, 5, 0, 2, 100, 105, 2, 3, 111, 113, 3, 0, 120, 125, 1, 2, 11, 13, 2, 3, 20, 22, 3, 0, 28, 33);
        x.kind(0, 2, 0);
        due(x.film(1), 2);
        due(x.item(1, 0), 1 + 16 + 32 + 64);
        due(x.item(1, 1), 2 + 4 + 8);
        Doc.says(32, "(longs):");
        x = Plans.six();
        x.sheet(0, 1, 9);
        x.film(0);
        x.put(0, 2, 1L << 40);
        due(x.item(0, 2), 1L << 40);
        x.sheet(1, 0, 3);
        due(x.copy(0, 0, 1, 0, 3), 3);
        Doc.says(32, "how many;");
        x = Plans.singles();
        due(x.film(0), 7);
        for (int i = 0; i < 7; i++) {
            due(x.item(0, i), 1 << i);
        }
        // no flights: a row of none
        x = new CrewPairings();
        due(x.film(2), 0);
        due(x.put(2, 0, 1), OUTSIDE);

        Doc.says(32, "NONE: there is no COVER");
        due(Plans.lonely().film(0), NONE);
        Doc.says(32, "(it stays).");
        Twins.refused(DocPart::alone, y -> y.film(0), NONE);
        Twins.refused(DocPart::alone, y -> y.film(3), NONE);

        Doc.says(32, "BAD.");
        for (int sheet : NOT_OF_FOUR) {
            Twins.refused(y -> y.film(sheet), BAD);
            Twins.refused(DocPart::alone, y -> y.film(sheet), BAD);
        }
    }

    private static void load() {
        Doc.says(33, "FLIGHTS by a SHEET that is taken for one of a sort:");
        CrewPairings x = new CrewPairings();
        Plans.row(x, 0, 0, 9, 3, 1, 20, 30, 1, 3, 40, 50);
        Plans.row(x, 1, 1, 0, 2, 7, 8);
        due(x.load(0, 1, 1, 2), UNLIKE);
        due(x.load(1, 0, 0, 1), UNLIKE);
        due(x.load(0, 0, 1, 2), 2);
        due(x.load(1, 1, 0, 1), 1);
        Doc.says(33, "from one on,");
        for (int from = 0; from < 4; from++) {
            CrewPairings y = told(new CrewPairings(), 1, 0, 1, 2, 3, 4, 5, 6);
            due(y.load(0, 1, from, 1), from == 3 ? 0 : 1);
            due(y.of(0, 3), from == 3 ? BAD : from + 3);
        }
        Doc.says(33, "four a FLIGHT (FROM, TO, DEP, ARR;");
        int[][] flights = {{3, 1, 20, 30}, {1, 3, 40, 50}, {0, 2, 7, 8}};
        for (int f = 0; f < 3; f++) {
            for (int what = 0; what < 4; what++) {
                due(x.of(f, what), flights[f][what]);
            }
        }
        Doc.says(33, "of longs their lowest 32 bits),");
        x = new CrewPairings();
        Plans.row(x, 0, 0, (7L << 32) + 3, (-1L << 32) + 1, Long.MIN_VALUE + 20, (1L << 32) + 30);
        due(x.load(0, 0, 0, 1), 1);
        for (int what = 0; what < 4; what++) {
            due(x.of(0, what), flights[0][what]);
        }
        Doc.says(33, "n of them (0 .. 7):");
        x = new CrewPairings();
        Plans.row(x, 0, 1, 0, 1, 0, 1, 0, 1, 0, 2, 0, 1, 0, 3, 0, 1, 0, 4, 0, 1, 0, 5, 0, 1, 0, 6, 0, 1, 0, 7);
        due(x.load(0, 1, 0, 0), 0);
        due(x.count(0), 0);
        due(x.load(0, 1, 0, 7), 7);
        due(x.of(6, 3), 7);
        Twins.changesNothing(Plans::busy, y -> y.load(3, 0, 0, 0));
        Doc.says(33, "how many came");
        due(told(new CrewPairings(), 0, 0, 1, 5, 6, 1, 0, 9, 10).load(0, 0, 0, 1), 1);
        due(told(new CrewPairings(), 0, 0, 1, 5, 6, 1, 0, 9, 10).load(0, 0, 0, 2), 2);
        due(told(new CrewPairings(), 0, 0, 1, 5, 6, 1, 1, 9, 10).load(0, 0, 0, 2), 1);
        Doc.says(33, "(others are left out).");
        x = new CrewPairings();
        Plans.row(x, 0, 0, 0, 1, 5, 6, 0, 0, 5, 6, 4, 1, 5, 6, 0, 1, 6, 6, 1, 0, 9, 10, 0, 1, 0, 300, 0, 1, -1, 5);
        due(x.load(0, 0, 0, 7), 2);
        due(x.count(0), 2);
        due(x.of(1, 2), 9);
        // also those that have no room
        due(x.load(0, 0, 16, 1) + x.load(0, 0, 16, 1) + x.load(0, 0, 16, 1) + x.load(0, 0, 16, 1), 4);
        due(x.load(0, 0, 0, 5), 1);
        due(x.count(0), 7);
        due(x.load(0, 0, 0, 5), 0);
    }

    /** In busy() sheet 0 has 6 longs, 1 has 3 ints, 2 is missing, 3 has 9 longs: two flights that come. */
    private static void loadRefuses() {
        Doc.says(33, "BAD: no such SHEET,");
        for (int sheet : NOT_OF_FOUR) {
            Twins.refused(y -> y.load(sheet, 0, 0, 1), BAD);
        }
        Doc.says(33, "sort,");
        for (int sort : new int[] {-1, 2, LOW, HIGH}) {
            Twins.refused(y -> y.load(3, sort, 0, 1), BAD);
        }
        Doc.says(33, "n;");
        for (int n : new int[] {-1, 8, LOW, HIGH}) {
            Twins.refused(y -> y.load(3, 0, 0, n), BAD);
        }
        Doc.says(33, "-13;");
        Twins.refused(y -> y.load(3, 1, 0, 1), UNLIKE);
        Twins.refused(y -> y.load(1, 0, 0, 0), UNLIKE);
        Doc.says(33, "-11;");
        Twins.refused(y -> y.load(2, 0, 0, 1), MISSING);
        Twins.refused(y -> y.load(2, 1, 0, 0), MISSING);
        Doc.says(33, "-12:");
        for (int from : new int[] {-1, -4, LOW, 6, 9, 40, HIGH, HIGH - 3}) {
            Twins.refused(y -> y.load(3, 0, from, 1), OUTSIDE);
            Twins.refused(y -> y.load(3, 0, from, 7), OUTSIDE);
        }
        // a place that is just inside, and one more
        CrewPairings x = Twins.made(Plans::busy);
        due(x.load(3, 0, 5, 1), 0);
        due(x.load(3, 0, 6, 1), OUTSIDE);
        due(x.count(0), 6);
        x = new CrewPairings();
        x.sheet(0, 0, 0);
        due(x.load(0, 0, 0, 0), 0);
        due(x.load(0, 0, 0, 1), OUTSIDE);
        Doc.says(33, "what stood ahead came.");
        x = Twins.made(Plans::busy);
        x.drop();
        x.drop();
        due(x.load(3, 0, 0, 3), OUTSIDE);
        due(x.count(0), 6);
        due(x.of(4, 3), 15);
        due(x.of(5, 3), 28);
    }

    private static void image() {
        Doc.says(34, "AN IMAGE is kept:");
        CrewPairings x = new CrewPairings();
        x.image();
        Plans.full(x);
        due(x.back(), 0);
        Plans.full(x);
        x.image();
        x.drop();
        due(x.back(), 7);
        // the latest one is kept
        x.drop();
        due(x.image(), 6);
        Plans.fly(x, 0, 1, 2, 3);
        due(x.back(), 6);
        // it isn't changed by what is done then
        x.shift(0, 100, 110);
        x.mark(0, 1, 1);
        due(x.back(), 6);
        due(x.of(0, 2), 0);
        due(x.count(1), 0);
        Doc.says(34, "how many FLIGHTS.");
        x = new CrewPairings();
        due(x.image(), 0);
        for (int f = 1; f <= 7; f++) {
            Plans.fly(x, 0, 1, f, 9);
            due(x.image(), f);
        }
    }

    private static void back() {
        Doc.says(35, "All that it keeps is as in THE IMAGE:");
        CrewPairings x = Plans.six();
        x.image();
        due(x.best(0), 109);
        x.drop();
        x.fee(0, 99);
        x.mark(0, 1, 1);
        x.kind(0, 3, 9);
        x.base(0);
        due(x.best(0), NONE);
        due(x.back(), 6);
        due(x.best(0), 109);
        due(x.bound(0), 109);
        // also of flights that others have taken the place of
        for (int i = 0; i < 6; i++) {
            x.drop();
        }
        Plans.fly(x, 3, 2, 200, 210, 2, 3, 220, 230, 3, 2, 200, 210, 2, 3, 220, 230, 3, 2, 200, 210);
        due(x.back(), 6);
        due(x.of(0, 0) * 10 + x.of(0, 1), 1);
        due(x.of(1, 0) * 10 + x.of(1, 1), 10);
        due(x.of(4, 2) * 100 + x.of(4, 3), 7280);
        due(x.pairings(NONE), 7);
        due(x.count(1), 0);
        Twins.changesNothing(y -> {
            Plans.busy(y);
            y.image();
        }, y -> {
            y.drop();
            y.drop();
            y.mark(0, 1, 1);
            due(y.back(), 6);
            y.kind(2, 2, 2);
            due(y.back(), 6);
        });

        Doc.says(35, "how many FLIGHTS.");
        for (int f = 0; f <= 7; f++) {
            x = new CrewPairings();
            for (int i = 0; i < f; i++) {
                Plans.fly(x, 0, 1, i, 9);
            }
            x.image();
            x.drop();
            due(x.back(), f);
        }

        Doc.says(35, "STATE: there is none.");
        due(new CrewPairings().back(), STATE);
        Twins.refused(Plans::full, y -> y.back(), STATE);
    }

    private static void count() {
        Doc.says(36, "How many: 0 FLIGHTS,");
        CrewPairings x = Plans.six();
        due(x.count(0), 6);
        due(new CrewPairings().count(0), 0);
        Doc.says(36, "1 twos with a MARK,");
        due(x.count(1), 0);
        x.mark(0, 1, 1);
        x.mark(1, 0, 2);
        x.mark(5, 4, 2);
        due(x.count(1), 3);
        x.mark(0, 1, 2);
        x.mark(5, 4, 0);
        due(x.count(1), 2);
        Doc.says(36, "2 bytes of THE TAPE,");
        due(x.count(2), 0);
        Plans.feed(x, "0123456");
        due(x.count(2), 7);
        Doc.says(36, "3 twos that FOLLOW,");
        // 0-1, 0-3, 1-2, 1-4, 2-3, 3-4, 4-5: sits and rests, whatever the marks
        due(x.count(3), 7);
        due(Plans.threes().count(3), 9);
        due(Plans.lonely().count(3), 0);
        Doc.says(36, "4 sets that are HAD;");
        due(Plans.calm().count(4), 3);
        due(Plans.fan().count(4), 5);
        due(Plans.chain().count(4), 15);
        due(Plans.lonely().count(4), 0);
        Doc.says(36, "BASES (5; bits),");
        due(x.count(5), 1);
        x.base(10);
        due(x.count(5), 10);
        Doc.says(36, "FEE what - 10 (10 .. 14).");
        int[] fees = {10, 1, 5, 20, 2};
        for (int which = 0; which < 5; which++) {
            due(x.count(10 + which), fees[which]);
            x.fee(which, which + 4);
            due(x.count(10 + which), which + 4);
        }

        Doc.says(36, "BAD.");
        for (int what : new int[] {-1, 6, 7, 8, 9, 15, 16, LOW, HIGH}) {
            Twins.refused(y -> y.count(what), BAD);
        }
    }
}
