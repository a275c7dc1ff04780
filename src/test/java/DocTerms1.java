/** The document's Terms, part 1: airports, flights, kinds, pairings. */
final class DocTerms1 extends DocPart {
    /** Where the flights of a round trip from airport 0 go, by how many there are. */
    private static final int[][] ROUNDS = {{}, {}, {1, 0}, {1, 2, 0}, {1, 0, 1, 0}, {1, 0, 1, 2, 0}};

    private DocTerms1() { }

    static void run() {
        airportsAndFlights();
        bases();
        fees();
        answers();
        refusalsInOrder();
        refusalsAlone();
        kinds();
        sits();
        rests();
        legs();
        spans();
        duties();
        follows();
        slackAndTight();
        pairingsInOrder();
        pairingsByBase();
        marks();
        costs();
    }

    private static void says(String promises, String words) {
        Doc.says("Terms 1, promises " + promises, words);
    }

    private static void airportsAndFlights() {
        says("2, 7", "AIRPORTS 0 .. 3;");
        CrewPairings x = new CrewPairings();
        due(x.fly(0, 3, 1, 2), 0);
        due(x.fly(3, 0, 1, 2), 1);
        due(x.fly(4, 0, 1, 2), BAD);
        due(x.fly(0, 4, 1, 2), BAD);
        due(x.fly(-1, 0, 1, 2), BAD);
        due(x.fly(0, -1, 1, 2), BAD);
        due(x.told(0, 0) + x.told(3, 0), 0);
        due(x.told(4, 0), BAD);
        due(x.told(-1, 0), BAD);

        says("2, 4", "FLIGHTS, numbered from 0 as they come");
        x = new CrewPairings();
        for (int i = 0; i < 7; i++) {
            // each earlier than the one ahead: by coming, not by DEP
            due(x.fly(0, 1, 100 - i, 200), i);
            due(x.of(i, 2), 100 - i);
        }
        x.drop();
        due(x.fly(0, 1, 2, 3), 6);

        says("2, 4", "(7 at most),");
        due(x.fly(0, 1, 50, 60), FULL);
        due(x.count(0), 7);
        due(x.of(7, 2), BAD);

        says("2", "FROM one AIRPORT TO another one,");
        for (int from = 0; from < 4; from++) {
            for (int to = 0; to < 4; to++) {
                x = new CrewPairings();
                due(x.fly(from, to, 1, 2), from == to ? BAD : 0);
                if (from != to) due(x.of(0, 0) * 10 + x.of(0, 1), from * 10 + to);
            }
        }

        says("2, 5", "with a DEP and an ARR (0 .. 299,");
        x = Plans.lonely();
        due(x.fly(0, 1, 0, 299), 1);
        due(x.shift(0, 0, 299), 0);
        notTimes(x, -1, 5, 5, 300, 299, 300, 300, 301, LOW, 5, 5, HIGH, LOW, HIGH);

        says("2, 5", "DEP below ARR).");
        due(x.fly(0, 1, 0, 1), 2);
        due(x.fly(0, 1, 298, 299), 3);
        notTimes(x, 7, 7, 8, 7, 0, 0, 299, 299, 299, 0);
    }

    private static void notTimes(CrewPairings x, int... pairs) {
        int flights = x.count(0);
        for (int i = 0; i < pairs.length; i += 2) {
            due(x.fly(0, 1, pairs[i], pairs[i + 1]), BAD);
            due(x.shift(0, pairs[i], pairs[i + 1]), BAD);
        }
        due(x.count(0), flights);
        due(x.of(0, 2) * 1000 + x.of(0, 3), 299);
    }

    private static void bases() {
        says("9, 13", "BASES are AIRPORTS (bits;");
        for (int base = 0; base < 4; base++) {
            CrewPairings x = Plans.plan(base, (base + 1) % 4, 0, 10, (base + 1) % 4, base, 15, 25);
            x.base(15 - (1 << base));
            due(x.pairing(3, 3), NONE);
            x.base(1 << base);
            due(x.pairing(3, 3), base);
        }
        says("9, 13, 36", "1 at first).");
        due(new CrewPairings().count(5), 1);
        due(Plans.calm().pairing(3, 3), 0);
        due(Plans.plan(1, 0, 0, 10, 0, 1, 15, 25).pairing(3, 3), NONE);
    }

    /** It is so much at first; 0 and the top are fine, one less and one more aren't. */
    private static void fee(int which, int first, int top) {
        CrewPairings x = new CrewPairings();
        due(x.count(10 + which), first);
        due(x.fee(which, top), first);
        due(x.fee(which, top + 1), BAD);
        due(x.fee(which, 0), top);
        due(x.fee(which, -1), BAD);
        due(x.count(10 + which), 0);
    }

    private static void fees() {
        // by two(): one DUTY, 22 AWAY, one TIGHT of SLACK 1
        CrewPairings x = Plans.two();
        says("10", "FEES: 0 DUTY (0 .. 99; 10 at first),");
        fee(0, 10, 99);
        x.fee(0, 0);
        due(x.pairing(3, 0), 22 + 5);
        x.fee(0, 99);
        due(x.pairing(3, 0), 99 + 22 + 5);
        says("10", "1 AWAY (0 .. 9; 1),");
        fee(1, 1, 9);
        x.fee(1, 0);
        due(x.pairing(3, 0), 99 + 5);
        x.fee(1, 9);
        due(x.pairing(3, 0), 99 + 9 * 22 + 5);
        says("10", "2 TIGHT (0 .. 99; 5),");
        fee(2, 5, 99);
        x.fee(2, 0);
        due(x.pairing(3, 0), 99 + 9 * 22);
        x.fee(2, 99);
        due(x.pairing(3, 0), 99 + 9 * 22 + 99);
        says("10", "3 HEAD (0 .. 99; 20),");
        fee(3, 20, 99);
        x.fee(3, 0);
        due(x.had(1, 0), 396);
        x.fee(3, 99);
        due(x.had(1, 0), 396 + 99);
        says("10", "4 BUFFER (0 .. 20; 2).");
        fee(4, 2, 20);
        x.fee(4, 1);
        due(x.pairing(3, 2), 0);
        x.fee(4, 20);
        due(x.pairing(3, 2), 1);
    }

    private static void answers() {
        says("4, 13, 15, 17, 32", "Sets of FLIGHTS are told as bits.");
        CrewPairings x = Plans.plan(2, 3, 0, 1, 2, 3, 0, 1, 2, 3, 0, 1, 2, 3, 0, 1, 2, 3, 0, 1, 0, 1, 0, 10, 1, 0, 15, 25);
        due(x.of(5, 4), 1 << 6);
        due(x.pairing(1 << 5 | 1 << 6, 0), 35);
        due(x.pairings(0), 96);
        due(x.had(1 << 6, 1), 96);
        due(x.pairing(127, 0), NONE);
        due(x.pairing(128, 0), BAD);
        due(x.late(5, 9, 0), STATE);
        x = Plans.chain();
        due(x.bestOf(3, 0), 15);
        due(x.late(3, 9, 0), 8);

        says("13, 17", "NONE is -1;");
        x = Plans.lonely();
        due(x.pairing(1, 0), -1);
        due(x.bestOf(0, 0), -1);
        says("18, 39", "NO, where a long is answered, the least long.");
        due(x.bound(0), -9223372036854775808L);
        due(x.item(0, 0), -9223372036854775808L);
    }

    private static void refusalsInOrder() {
        says("2 to 40", "Refusals, the first that the call's words name;");
        // BAD ahead of FULL
        Twins.refused(Plans::full, x -> x.fly(2, 2, 1, 2), BAD);
        Twins.refused(Plans::full, x -> x.fly(0, 4, 1, 2), BAD);
        Twins.refused(Plans::full, x -> x.fly(0, 1, 2, 2), BAD);
        // BAD ahead of -13: airport 3 of busy() is a CHARTER
        Twins.refused(x -> x.taken(3, 1), UNLIKE);
        Twins.refused(x -> x.taken(4, 1), BAD);
        Twins.refused(x -> x.taken(3, 6), BAD);
        Twins.refused(x -> x.taken(3, -1), BAD);
        // BAD ahead of DEAR
        Twins.refused(Plans::growThicket, x -> x.tree(2), BAD);
        Twins.refused(Plans::growThicket, x -> x.tree(-1), BAD);
        Twins.refused(Plans::growThicket, x -> x.tree(0), DEAR);
        told();
        late();
        tapeAndSheets();
        copies();
    }

    /** proves(), labels(), tells(): in busy() sheet 2 is missing, sheet 1 of 3, sheet 3 of 9 items; 6 flights. */
    private static void told() {
        for (int what : new int[] {-1, 2}) {
            Twins.refused(x -> x.proves(2, 1, what), BAD);
            Twins.refused(x -> x.proves(3, 1, what), BAD);
            Twins.refused(x -> x.labels(2, what), BAD);
            Twins.refused(x -> x.labels(3, what), BAD);
        }
        for (int n : new int[] {0, 100}) {
            Twins.refused(x -> x.proves(2, n, 0), BAD);
            Twins.refused(x -> x.proves(3, n, 0), BAD);
        }
        // a missing one tells of no flights, fewer than 6: -11 ahead of STATE
        Twins.refused(x -> x.proves(2, 1, 0), MISSING);
        Twins.refused(x -> x.labels(2, 0), MISSING);
        for (int what : new int[] {-1, 3}) {
            Twins.refused(x -> x.tells(2, what), BAD);
            Twins.refused(x -> x.tells(3, what), BAD);
        }
        Twins.refused(x -> x.tells(2, 0), MISSING);
        Twins.refused(x -> x.tells(3, 0), BAD);
    }

    /** BAD ahead of STATE, and of NONE: there is no cover. */
    private static void late() {
        Twins.refused(DocPart::alone, x -> x.late(1, 5, 0), BAD);
        Twins.refused(DocPart::alone, x -> x.late(0, 100, 0), BAD);
        Twins.refused(DocPart::alone, x -> x.late(0, 5, 2), BAD);
        Twins.refused(DocPart::alone, x -> x.worst(100), BAD);
        Twins.refused(DocPart::alone, x -> x.drawn(1, 0), BAD);
        Twins.refused(DocPart::alone, x -> x.drawn(1, 100), BAD);
        Twins.refused(DocPart::alone, x -> x.chance(1, 0, 5, 5, 0), BAD);
        Twins.refused(DocPart::alone, x -> x.chance(1, 5, 0, 5, 0), BAD);
        Twins.refused(DocPart::alone, x -> x.chance(1, 5, 5, -1, 0), BAD);
        Twins.refused(DocPart::alone, x -> x.chance(1, 5, 5, 5, 2), BAD);
        Twins.refused(DocPart::alone, x -> x.best(3), BAD);
        Twins.refused(DocPart::alone, x -> x.bestOf(1, 0), BAD);
        Twins.refused(DocPart::alone, x -> x.bestOf(0, 2), BAD);
        Twins.refused(DocPart::alone, x -> x.film(4), BAD);
        Twins.refused(DocPart::alone, x -> x.pairing(1, 4), BAD);
        Twins.refused(DocPart::alone, x -> x.had(1, 2), BAD);
    }

    private static void fullTape(CrewPairings x) {
        Plans.feed(x, "base 2;base 4;base 8;fee 0 1;fee 1 2;fee 2 3;fee 3 4;base 15");
    }

    private static void tapeAndSheets() {
        // BAD ahead of FULL
        Twins.refused(DocTerms1::fullTape, x -> x.feed(6, 1, 1, 1, 1, 1), BAD);
        Twins.refused(DocTerms1::fullTape, x -> x.feed(5, 1, 1, 1, 1, 256), BAD);
        Twins.refused(DocTerms1::fullTape, x -> x.feed(1, 1, -1, 1, 1, 1), BAD);
        Twins.refused(DocTerms1::fullTape, x -> x.feed(1, 1, 1, 1, 1, 1), FULL);
        // load(): BAD ahead of -13, -11, -12; -13 and -11 ahead of -12; a missing one is of no sort
        for (int sheet : new int[] {0, 2}) {
            Twins.refused(x -> x.load(sheet, 2, 99, 1), BAD);
            Twins.refused(x -> x.load(sheet, -1, 99, 1), BAD);
            Twins.refused(x -> x.load(sheet, 1, 99, 8), BAD);
            Twins.refused(x -> x.load(sheet, 1, 99, -1), BAD);
        }
        Twins.refused(x -> x.load(0, 1, 99, 1), UNLIKE);
        Twins.refused(x -> x.load(1, 0, -1, 1), UNLIKE);
        Twins.refused(x -> x.load(2, 0, 99, 1), MISSING);
        Twins.refused(x -> x.load(2, 1, -1, 1), MISSING);
        // sheet(): BAD ahead of -14
        Twins.refused(x -> x.sheet(4, 0, -1), BAD);
        Twins.refused(x -> x.sheet(-1, 1, -1), BAD);
        Twins.refused(x -> x.sheet(0, 2, -1), BAD);
        Twins.refused(x -> x.sheet(0, -2, -1), BAD);
        // put(): BAD, then -11, then -12
        Twins.refused(x -> x.put(4, -1, 7), BAD);
        Twins.refused(x -> x.put(2, -1, 7), MISSING);
    }

    /** copy(): BAD, then -11, then -13, then -12; sheets 0 and 3 hold longs, 1 ints, 2 is missing. */
    private static void copies() {
        Twins.refused(x -> x.copy(4, 0, 2, 0, 1), BAD);
        Twins.refused(x -> x.copy(2, 0, 4, 0, 1), BAD);
        Twins.refused(x -> x.copy(2, 0, -1, 0, -1), BAD);
        Twins.refused(x -> x.copy(2, 0, 1, 0, -1), MISSING);
        Twins.refused(x -> x.copy(1, 0, 2, 0, -1), MISSING);
        Twins.refused(x -> x.copy(2, -1, 2, 99, 1), MISSING);
        Twins.refused(x -> x.copy(0, 0, 1, 0, -1), UNLIKE);
        Twins.refused(x -> x.copy(1, 99, 0, 0, 1), UNLIKE);
        Twins.refused(x -> x.copy(0, 0, 3, 0, -1), OUTSIDE);
    }

    private static void refusalsAlone() {
        says("2 to 40", "they change nothing (but THE TAPE, where told):");
        // a fault: the tape is empty then, and nothing else is changed
        CrewPairings x = Twins.made(Plans::busy);
        Plans.feed(x, ";base 9;bass 1");
        due(x.text(), -100 - 14 - 8);
        CrewPairings y = Twins.made(Plans::busy);
        due(y.text(), 2);
        y.fee(0, 12);
        y.base(1);
        Twins.alike(x, y);

        says("2, 13", "BAD (-2: a number is none such or not as told),");
        Twins.refused(z -> z.of(6, 0), -2);
        Twins.refused(z -> z.fly(0, 1, 7, 6), -2);
        Twins.refused(z -> z.pairing(64, 0), -2);
        says("3, 35", "STATE (-3),");
        Twins.refused(z -> { }, z -> z.drop(), -3);
        Twins.refused(z -> { }, z -> z.back(), -3);
        says("2, 29", "FULL (-4),");
        Twins.refused(Plans::full, z -> z.fly(0, 1, 1, 2), -4);
        Twins.refused(DocTerms1::fullTape, z -> z.feed(2, 1, 1, 1, 1, 1), -4);
        says("21", "DEAR (-5);");
        Twins.refused(Plans::growThicket, z -> z.tree(1), -5);
        says("38", "of SHEETS: -11 it is missing,");
        Twins.refused(z -> z.put(2, 0, 1), -11);
        says("38, 14", "-12 a place outside,");
        Twins.refused(z -> z.put(0, 6, 1), -12);
        Twins.refused(z -> z.pairings(99), -12);
        says("40, 8", "-13 a thing of another sort or KIND,");
        Twins.refused(z -> z.copy(0, 0, 1, 0, 1), -13);
        Twins.refused(z -> z.taken(0, 1), -13);
        says("37", "-14 a size below 0.");
        Twins.refused(z -> z.sheet(0, 0, -1), -14);
    }

    /** An airport of this kind can be taken for those of these (bits), and for no others. */
    private static void takenFor(int kind, int others) {
        CrewPairings x = new CrewPairings();
        x.kind(2, kind, 0);
        for (int k = 0; k < 6; k++) {
            due(x.taken(2, k), (others >> k & 1) != 0 ? x.told(2, 5) : UNLIKE);
        }
    }

    private static void kinds() {
        says("6, 7", "An AIRPORT has a KIND (0 at first)");
        CrewPairings x = new CrewPairings();
        for (int a = 0; a < 4; a++) {
            due(x.told(a, 0), 0);
        }
        due(x.kind(1, 5, 0), 0);
        due(x.told(1, 0), 5);
        due(x.kind(1, 6, 0), BAD);
        due(x.kind(1, -1, 0), BAD);
        due(x.told(1, 0), 5);
        due(x.told(0, 0) + x.told(2, 0), 0);
        says("6, 7", "with a FIGURE (0 .. 9; 0 at first):");
        for (int a = 0; a < 4; a++) {
            due(x.told(a, 1), 0);
        }
        due(x.kind(1, 0, 9), 50);
        due(x.told(1, 1), 9);
        due(x.kind(1, 0, 10), BAD);
        due(x.kind(1, 0, -1), BAD);
        due(x.told(1, 1), 9);
        due(x.told(0, 1) + x.told(2, 1), 0);
        says("6, 7, 8", "0 PLAIN;");
        takenFor(0, 1);
        says("6, 7, 8", "1 STRICT, 2 LAX, 5 UNION under PLAIN;");
        takenFor(1, 1 + 2);
        takenFor(2, 1 + 4);
        takenFor(5, 1 + 32);
        says("6, 7, 8", "3 NIGHT under STRICT;");
        takenFor(3, 1 + 2 + 8);
        says("6, 7, 8", "4 CHARTER under LAX.");
        takenFor(4, 1 + 4 + 16);
    }

    /** At an airport of that kind a gap of so much is enough for a sit, one less isn't. */
    private static void sit(int kind, int figure, int want) {
        CrewPairings x = Plans.plan(0, 1, 0, 20, 1, 0, 20 + want, 60);
        x.kind(1, kind, figure);
        due(x.told(1, 2), want);
        due(x.follows(0, 1), 1);
        x.shift(1, 20 + want - 1, 60);
        due(x.follows(0, 1), 0);
    }

    private static void sits() {
        says("7, 12", "SIT: PLAIN 3;");
        for (int figure = 0; figure < 10; figure++) {
            sit(0, figure, 3);
        }
        says("7, 12", "STRICT FIGURE % 3 more than that;");
        int[] more = {0, 1, 2, 0, 1, 2, 0, 1, 2, 0};
        for (int figure = 0; figure < 10; figure++) {
            sit(1, figure, 3 + more[figure]);
        }
        says("7, 12", "LAX 1 less than PLAIN;");
        for (int figure = 0; figure < 10; figure++) {
            sit(2, figure, 2);
        }
        says("7, 12", "NIGHT as STRICT;");
        for (int figure = 0; figure < 10; figure++) {
            sit(3, figure, 3 + more[figure]);
        }
        says("7, 12", "CHARTER half (cut) of a LAX one's;");
        for (int figure = 0; figure < 10; figure++) {
            sit(4, figure, 1);
        }
        says("7, 12", "UNION 4 and FIGURE.");
        for (int figure = 0; figure < 10; figure++) {
            sit(5, figure, 4 + figure);
        }
    }

    /** At an airport of that kind a gap of so much is enough for a rest, one less is a sit. */
    private static void rest(int kind, int figure, int want) {
        CrewPairings x = Plans.plan(0, 1, 0, 20, 1, 0, 20 + want, 60);
        x.kind(1, kind, figure);
        due(x.told(1, 3), want);
        due(x.follows(0, 1), 2);
        x.shift(1, 20 + want - 1, 60);
        due(x.follows(0, 1), 1);
    }

    private static void rests() {
        says("7, 12", "REST: PLAIN 20;");
        for (int figure = 0; figure < 10; figure++) {
            rest(0, figure, 20);
        }
        says("7, 12", "STRICT FIGURE more;");
        for (int figure = 0; figure < 10; figure++) {
            rest(1, figure, 20 + figure);
        }
        says("7, 12", "LAX as PLAIN;");
        for (int figure = 0; figure < 10; figure++) {
            rest(2, figure, 20);
        }
        says("7, 12", "NIGHT 5 less than STRICT;");
        for (int figure = 0; figure < 10; figure++) {
            rest(3, figure, 15 + figure);
        }
        says("7, 12", "CHARTER FIGURE less than PLAIN;");
        for (int figure = 0; figure < 10; figure++) {
            rest(4, figure, 20 - figure);
        }
        says("7, 12", "UNION as PLAIN.");
        for (int figure = 0; figure < 10; figure++) {
            rest(5, figure, 20);
        }
    }

    /** So many flights from airport 0 round to it, each 1 long, with that gap between them. */
    private static CrewPairings round(int flights, int gap) {
        CrewPairings x = new CrewPairings();
        int at = 0;
        int time = 0;
        for (int to : ROUNDS[flights]) {
            Plans.fly(x, at, to, time, time + 1);
            at = to;
            time += 1 + gap;
        }
        return x;
    }

    /** A duty of a base of that kind has so many flights at most, whatever its figure is. */
    private static void leg(int kind, int want) {
        for (int figure = 0; figure < 10; figure++) {
            CrewPairings x = new CrewPairings();
            x.kind(0, kind, figure);
            due(x.told(0, 4), want);
        }
        CrewPairings x = round(want, 5);
        x.kind(0, kind, 0);
        due(x.pairing((1 << want) - 1, 1), 1);
        x = round(want + 1, 5);
        x.kind(0, kind, 0);
        due(x.pairing((2 << want) - 1, 1), NONE);
    }

    private static void legs() {
        says("7, 13", "LEGS: PLAIN 3;");
        leg(0, 3);
        says("7, 13", "STRICT as that;");
        leg(1, 3);
        says("7, 13", "LAX 1 more;");
        leg(2, 4);
        says("7, 13", "NIGHT 1 less than PLAIN;");
        leg(3, 2);
        says("7, 13", "CHARTER as LAX;");
        leg(4, 4);
        says("7, 13", "UNION 2.");
        leg(5, 2);
    }

    /** A duty of a base of that kind is so long at most. */
    private static void span(int kind, int figure, int want) {
        CrewPairings x = Plans.plan(0, 1, 0, 10, 1, 0, 13, want);
        x.kind(0, kind, figure);
        due(x.told(0, 5), want);
        due(x.pairing(3, 1), 1);
        x.shift(1, 13, want + 1);
        due(x.pairing(3, 1), NONE);
    }

    private static void spans() {
        says("7, 13", "SPAN: PLAIN 40;");
        for (int figure = 0; figure < 10; figure++) {
            span(0, figure, 40);
        }
        says("7, 13", "STRICT FIGURE less;");
        for (int figure = 0; figure < 10; figure++) {
            span(1, figure, 40 - figure);
        }
        says("7, 13", "LAX FIGURE more;");
        for (int figure = 0; figure < 10; figure++) {
            span(2, figure, 40 + figure);
        }
        says("7, 13", "NIGHT as STRICT;");
        for (int figure = 0; figure < 10; figure++) {
            span(3, figure, 40 - figure);
        }
        says("7, 13", "CHARTER 10 more than LAX;");
        for (int figure = 0; figure < 10; figure++) {
            span(4, figure, 50 + figure);
        }
        says("7, 13", "UNION as PLAIN.");
        for (int figure = 0; figure < 10; figure++) {
            span(5, figure, 40);
        }
    }

    /** A pairing of a base of that kind has so many duties at most, whatever its figure is. */
    private static void duty(int kind, int want) {
        for (int figure = 0; figure < 10; figure++) {
            CrewPairings x = new CrewPairings();
            x.kind(0, kind, figure);
            due(x.told(0, 6), want);
        }
        CrewPairings x = round(want, 30);
        x.kind(0, kind, 0);
        due(x.pairing((1 << want) - 1, 1), want);
        x = round(want + 1, 30);
        x.kind(0, kind, 0);
        due(x.pairing((2 << want) - 1, 1), NONE);
    }

    private static void duties() {
        says("7, 13", "DUTIES: PLAIN 3;");
        duty(0, 3);
        says("7, 13", "STRICT, LAX, NIGHT as that;");
        duty(1, 3);
        duty(2, 3);
        duty(3, 3);
        says("7, 13", "CHARTER 1 less;");
        duty(4, 2);
        says("7, 13", "UNION 2.");
        duty(5, 2);
    }

    private static void follows() {
        says("4, 12", "g FOLLOWS f, if g is FROM where f goes TO,");
        CrewPairings x = Plans.plan(0, 1, 0, 10, 1, 0, 100, 110, 0, 1, 100, 110, 2, 1, 100, 110, 3, 0, 100, 110);
        due(x.follows(0, 1), 2);
        due(x.follows(0, 2), 0);
        due(x.follows(0, 3), 0);
        due(x.follows(0, 4), 0);
        due(x.of(0, 5), 2);

        says("4, 12", "and the GAP (DEP of g less ARR of f) is REST there or more: by a REST;");
        x = Plans.calm();
        int[] gaps = {19, 20, 21, 200};
        int[] by = {1, 2, 2, 2};
        for (int i = 0; i < gaps.length; i++) {
            x.shift(1, 10 + gaps[i], 10 + gaps[i] + 5);
            due(x.follows(0, 1), by[i]);
        }
        // "there": neither where f is FROM nor where g goes TO
        x.shift(1, 30, 35);
        x.kind(0, 1, 9);
        due(x.follows(0, 1), 2);
        x.kind(1, 1, 1);
        due(x.follows(0, 1), 1);

        says("4, 12", "or else SIT there or more: by a SIT.");
        x = Plans.calm();
        gaps = new int[] {-9, -1, 0, 1, 2, 3, 4};
        by = new int[] {0, 0, 0, 0, 0, 1, 1};
        for (int i = 0; i < gaps.length; i++) {
            x.shift(1, 10 + gaps[i], 10 + gaps[i] + 5);
            due(x.follows(0, 1), by[i]);
            due(x.of(0, 4), by[i] * 2);
        }
        x.shift(1, 13, 20);
        x.kind(0, 5, 9);
        due(x.follows(0, 1), 1);
        x.kind(1, 1, 1);
        due(x.follows(0, 1), 0);
    }

    private static void slackAndTight() {
        says("25", "SLACK: GAP less that REST, that SIT.");
        // as late as the slack: the next one isn't late; one more: it is late by 1
        int[] gaps = {3, 4, 19, 20, 27};
        int[] slacks = {0, 1, 16, 0, 7};
        CrewPairings x = Plans.calm();
        for (int i = 0; i < gaps.length; i++) {
            x.shift(1, 10 + gaps[i], 10 + gaps[i] + 5);
            due(x.late(0, slacks[i], 1), slacks[i]);
            due(x.late(0, slacks[i] + 1, 1), slacks[i] + 2);
        }

        says("4, 13", "It is TIGHT, if it is by a SIT and SLACK is below BUFFER.");
        int[] buffers = {0, 1, 2, 16, 17, 20};
        for (int buffer : buffers) {
            x.fee(4, buffer);
            for (int i = 0; i < gaps.length; i++) {
                x.shift(1, 10 + gaps[i], 10 + gaps[i] + 5);
                int tight = gaps[i] < 20 && slacks[i] < buffer ? 1 : 0;
                due(x.of(0, 6), 2 * tight);
                due(x.pairing(3, 2), tight);
            }
        }
    }

    private static void pairingsInOrder() {
        says("13, 14", "A PAIRING: a set of FLIGHTS (not empty),");
        due(Plans.calm().pairing(0, 0), BAD);
        due(Plans.calm().pairings(0), 3);
        due(new CrewPairings().pairing(0, 0), BAD);
        due(new CrewPairings().pairings(NONE), 0);

        says("13", "in order by DEP");
        due(Plans.plan(1, 0, 15, 25, 0, 1, 0, 10).pairing(3, 0), 35);
        due(Plans.plan(2, 0, 30, 40, 0, 1, 0, 10, 1, 2, 15, 25).pairing(7, 0), 50);
        says("13", "(like ones by number),");
        // none of two FOLLOWS the other one, whatever their numbers are
        due(Plans.plan(0, 1, 5, 6, 1, 0, 5, 6).pairing(3, 0), NONE);
        due(Plans.plan(1, 0, 5, 6, 0, 1, 5, 6).pairing(3, 0), NONE);
        due(Plans.threes().pairing(63, 0), NONE);
        due(Plans.threes().pairings(0), 9);
        says("13", "each of which FOLLOWS the one ahead;");
        CrewPairings x = Plans.plan(0, 1, 5, 6, 1, 2, 11, 12, 2, 0, 17, 18);
        due(x.pairing(7, 0), 10 + 13);
        // 2 FOLLOWS 1, but nothing goes on from 0 to 2, and each must follow the one just ahead
        due(x.pairing(5, 0), NONE);
        x.shift(1, 8, 11);
        due(x.pairing(7, 0), NONE);
        x.shift(1, 11, 15);
        due(x.pairing(7, 0), NONE);
    }

    private static void pairingsByBase() {
        says("13", "the first is FROM a BASE,");
        CrewPairings x = Plans.plan(0, 1, 0, 10, 1, 2, 15, 25, 2, 0, 30, 40);
        due(x.pairing(7, 3), 0);
        due(x.pairing(1, 3), NONE);
        x.base(2 + 4 + 8);
        due(x.pairing(7, 3), NONE);
        x.base(0);
        due(x.pairing(7, 3), NONE);
        says("13", "to which the last goes TO;");
        x.base(15);
        due(x.pairing(7, 3), 0);
        // from a base to another base
        due(x.pairing(3, 3), NONE);
        due(x.pairing(6, 3), NONE);
        due(x.pairing(1, 3), NONE);

        says("13", "a DUTY ends with each REST;");
        due(round(3, 20).pairing(7, 1), 3);
        due(round(3, 19).pairing(7, 1), NONE);
        due(round(3, 18).pairing(7, 1), 1);
        due(Plans.six().pairing(51, 1), 2);
        // legs and span begin anew: 2 legs a duty of a NIGHT base, which rests 15; 45 in all
        x = Plans.plan(0, 1, 0, 5, 1, 0, 10, 15, 0, 1, 30, 35, 1, 0, 40, 45);
        x.kind(0, 3, 0);
        due(x.pairing(15, 1), 2);
        x.shift(2, 29, 35);
        due(x.pairing(15, 1), NONE);

        says("13", "by KIND of that BASE: no DUTY has more than LEGS FLIGHTS,");
        due(round(3, 5).pairing(7, 1), 1);
        due(round(4, 5).pairing(15, 1), NONE);
        x = round(3, 5);
        x.kind(1, 3, 0);
        x.kind(2, 5, 0);
        x.base(15);
        due(x.pairing(7, 1), 1);
        x.kind(0, 3, 0);
        due(x.pairing(7, 1), NONE);
        // also none behind a rest: 1 flight, then 3, then 4
        x = Plans.plan(0, 1, 0, 5, 1, 2, 30, 35, 2, 1, 40, 45, 1, 0, 50, 55);
        due(x.pairing(15, 1), 2);
        x = Plans.plan(0, 1, 0, 5, 1, 0, 30, 35, 0, 1, 38, 40, 1, 2, 44, 50, 2, 0, 55, 60);
        due(x.pairing(31, 1), NONE);

        says("13", "from the DEP of its first to the ARR of its last it is SPAN at most,");
        x = Plans.plan(0, 1, 5, 10, 1, 0, 40, 45);
        x.kind(1, 1, 9);
        x.base(3);
        x.kind(1, 1, 9);
        due(x.pairing(3, 1), 2);
        x = Plans.plan(0, 1, 5, 25, 1, 0, 30, 45);
        x.kind(1, 1, 9);
        due(x.pairing(3, 1), 1);
        x.shift(1, 30, 46);
        due(x.pairing(3, 1), NONE);
        x.shift(0, 6, 25);
        due(x.pairing(3, 1), 1);
        // also of a duty behind a rest, which begins anew
        x = Plans.plan(0, 1, 0, 5, 1, 2, 30, 40, 2, 0, 45, 70);
        due(x.pairing(7, 1), 2);
        x.shift(2, 45, 71);
        due(x.pairing(7, 1), NONE);

        says("13", "there are DUTIES DUTIES at most.");
        due(round(3, 30).pairing(7, 1), 3);
        due(round(4, 30).pairing(15, 1), NONE);
        x = round(3, 30);
        x.kind(1, 5, 0);
        x.kind(2, 4, 0);
        due(x.pairing(7, 1), 3);
        x.kind(0, 4, 0);
        due(x.pairing(7, 1), NONE);
    }

    /** Which of chain()'s pairings 3, 9, 12, 15 are left by a mark: digits 1 and 0. */
    private static void left(int f, int g, int m, int want) {
        CrewPairings x = Plans.chain();
        due(x.mark(f, g, m), 0);
        int got = 0;
        for (int set : new int[] {3, 9, 12, 15}) {
            got = 10 * got + (x.pairing(set, 0) == NONE ? 0 : 1);
        }
        due(got, want);
        due(x.pairings(NONE), Integer.bitCount(Integer.parseInt(Integer.toString(want), 2)));
    }

    private static void marks() {
        says("11", "MARKS of two FLIGHTS f, g (unlike;");
        CrewPairings x = Plans.threes();
        for (int f = 0; f < 6; f++) {
            due(x.mark(f, f, 0), BAD);
            due(x.mark(f, f, 1), BAD);
        }
        due(x.count(1), 0);
        says("11, 13", "0 FREE at first):");
        for (int f = 0; f < 6; f++) {
            for (int g = 0; g < 6; g++) {
                if (f != g) due(x.mark(f, g, 0), 0);
            }
        }
        left(1, 2, 0, 1111);

        says("11, 13", "1 MUST: a PAIRING that has one of them has g right behind f;");
        left(0, 1, 1, 1011);
        left(1, 2, 1, 101);
        // both are there, but not right behind one another
        left(0, 3, 1, 100);
        // the other way round: no pairing has them so
        left(1, 0, 1, 10);
        left(0, 2, 1, 0);

        says("11, 13", "2 NOT: it hasn't g right behind f.");
        left(0, 1, 2, 110);
        left(1, 2, 2, 1110);
        left(0, 3, 2, 1011);
        left(1, 0, 2, 1111);
        left(0, 2, 2, 1111);
    }

    private static void costs() {
        says("13", "COST: DUTY for each DUTY,");
        CrewPairings x = round(3, 30);
        x.fee(1, 0);
        due(x.pairing(7, 0), 30);
        x.fee(0, 99);
        due(x.pairing(7, 0), 297);
        x.fee(0, 0);
        due(x.pairing(7, 0), 0);
        says("13", "AWAY times (ARR of the last less DEP of the first),");
        x.fee(1, 9);
        due(x.pairing(7, 0), 9 * 63);
        x = Plans.plan(0, 1, 0, 1, 1, 0, 290, 299);
        x.fee(1, 9);
        due(x.pairing(3, 0), 20 + 9 * 299);
        says("13", "TIGHT for each that is TIGHT.");
        x = round(3, 3);
        due(x.pairing(7, 0), 10 + 9 + 2 * 5);
        x.fee(2, 99);
        due(x.pairing(7, 0), 10 + 9 + 2 * 99);
        x.shift(2, 10, 11);
        due(x.pairing(7, 0), 10 + 11 + 99);
        x.fee(4, 0);
        due(x.pairing(7, 0), 10 + 11);
    }
}
