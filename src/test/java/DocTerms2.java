import java.util.ArrayList;
import java.util.Arrays;
import java.util.List;
import java.util.function.Supplier;

/** The document's Terms, part 2: covers, prices, trees, labels, delays. */
final class DocTerms2 extends DocPart {
    private DocTerms2() { }

    static void run() {
        had();
        covers();
        best();
        noFlights();
        along();
        fairPrices();
        bounds();
        pricesOfTheBound();
        trees();
        labels();
        labelsGoOn();
        labelsAreDropped();
        ways();
        late();
        drawn();
        inSeeds();
    }

    private static void says(String promises, String words) {
        Doc.says("Terms 2, promises " + promises, words);
    }

    /** There and back, and another one that never comes back. */
    private static CrewPairings calmAndLonely() {
        CrewPairings x = Plans.calm();
        Plans.fly(x, 0, 1, 50, 60);
        return x;
    }

    private static void had() {
        says("15, 36", "A set of FLIGHTS (not empty) is HAD by a PAIRING that has all of it:");
        CrewPairings x = calmAndLonely();
        int[] by = {3, 3, 3, NONE, NONE, NONE, NONE};
        for (int set = 1; set < 8; set++) {
            due(x.had(set, 1), by[set - 1]);
            due(x.had(set, 0) == NONE ? 1 : 0, by[set - 1] == NONE ? 1 : 0);
        }
        due(x.had(0, 0), BAD);
        due(x.count(4), 3);

        says("15", "that COSTS HEAD more for each FLIGHT that isn't of the set (flown along);");
        x = Plans.plan(0, 1, 0, 1, 1, 2, 11, 12, 2, 0, 22, 23);
        due(x.had(7, 0), 33);
        due(x.had(3, 0), 33 + 20);
        due(x.had(5, 0), 33 + 20);
        due(x.had(2, 0), 33 + 40);
        x.fee(3, 99);
        due(x.had(2, 0), 33 + 198);
        x.fee(3, 0);
        due(x.had(2, 0), 33);

        says("15", "BY: that by which it COSTS least,");
        due(Plans.fan().had(4, 1), 6);
        due(Plans.fan().had(4, 0), 58);
        due(Plans.fan().had(1, 1), 5);
        // {0, 3} costs 55 as a pairing of two duties, 45 and twice HEAD in that of all four
        x = Plans.chain();
        x.fee(3, 4);
        due(x.had(9, 1), 15);
        due(x.had(9, 0), 53);
        x.fee(3, 6);
        due(x.had(9, 1), 9);
        due(x.had(9, 0), 55);

        says("15", "of like ones the least as bits.");
        x.fee(3, 5);
        due(x.had(9, 1), 9);
        due(x.had(9, 0), 55);
        x = Plans.threes();
        due(x.had(1, 1), 9);
        due(x.had(8, 1), 9);
        due(x.had(32, 1), 33);
        due(x.had(4, 1), 12);
    }

    private static void covers() {
        says("16, 17", "A COVER: sets, each HAD,");
        due(Plans.lonely().best(0), NONE);
        due(calmAndLonely().best(0), NONE);
        for (CrewPairings x : plans()) {
            int flights = x.count(0);
            for (int f = 0; f < flights; f++) {
                due(Math.min(x.had(x.bestOf(f, 0), 0), 0), 0);
            }
        }

        says("16, 17, 31", "that have each FLIGHT just once together;");
        due(told(Plans.six(), 0, 3, 12).tells(0, 1), NONE);
        due(told(Plans.six(), 0, 3, 12, 48, 1).tells(0, 1), NONE);
        for (CrewPairings x : plans()) {
            int flights = x.count(0);
            for (int f = 0; f < flights; f++) {
                int set = x.bestOf(f, 0);
                due(set >> f & 1, 1);
                for (int g = 0; g < flights; g++) {
                    if ((set >> g & 1) != 0) due(x.bestOf(g, 0), set);
                }
            }
        }

        says("16, 31", "TOTAL: what they COST together.");
        due(Plans.calm().best(0), 35);
        due(Plans.six().best(0), 37 + 39 + 33);
        due(Plans.fan().best(0), 40 + 20 + 38);
        for (CrewPairings x : plans()) {
            int left = (1 << x.count(0)) - 1;
            int total = 0;
            while (left > 0) {
                int set = x.bestOf(Integer.numberOfTrailingZeros(left), 0);
                total += x.had(set, 0);
                left &= ~set;
            }
            due(x.best(0), total);
        }
    }

    private static List<CrewPairings> plans() {
        List<CrewPairings> plans = new ArrayList<>(List.of(Plans.calm(), Plans.fan(), Plans.threes(), Plans.chain(),
                Plans.six(), Plans.singles(), Plans.ring(), Plans.bush(), Plans.thicket()));
        for (String clauses : Plans.FOUND) {
            plans.add(Plans.of(clauses));
        }
        return plans;
    }

    /** The least that covers of these flights cost, by trying all. */
    private static int leastTotal(CrewPairings x, int flights, int[] memo) {
        if (flights == 0) return 0;
        if (memo[flights] != 0) return memo[flights];
        int least = Integer.lowestOneBit(flights);
        int best = HIGH;
        for (int set = flights; set > 0; set = (set - 1) & flights) {
            if ((set & least) == 0) continue;
            int cost = x.had(set, 0);
            if (cost != NONE) best = Math.min(best, cost + leastTotal(x, flights & ~set, memo));
        }
        memo[flights] = best;
        return best;
    }

    private static void best() {
        says("16, 17", "BEST: that of least TOTAL,");
        // {0, 2}, {1, 3} are less as bits, but 1 and 3 are tight: 45 + 39; {0, 3}, {1, 2}: 39 + 40
        CrewPairings x = Plans.plan(0, 1, 0, 10, 0, 1, 5, 15, 1, 0, 25, 35, 1, 0, 19, 29);
        due(x.best(0), 79);
        due(x.bestOf(0, 0), 9);
        due(x.bestOf(1, 0), 6);
        x.fee(2, 0);
        // now both cost 79
        due(x.best(0), 79);
        due(x.bestOf(0, 0), 5);
        due(Plans.fan().best(0), leastTotal(Plans.fan(), 7, new int[8]));
        due(Plans.chain().best(0), leastTotal(Plans.chain(), 15, new int[16]));

        says("16, 17", "of like ones that whose set with FLIGHT 0 is the least as bits,");
        x = Plans.threes();
        due(x.best(0), 120);
        due(x.bestOf(0, 0), 1 + 8);
        // 98 either way: {0} and {1, 2}, or {0, 2} and {1}
        due(Plans.fan().bestOf(0, 0), 1);
        x = Plans.chain();
        for (int fee = 0; fee < 4; fee++) {
            x.fee(fee, 0);
        }
        due(x.best(0), 0);
        due(x.bestOf(0, 0), 1);

        says("16, 17", "then that whose set with the least FLIGHT that isn't in that is, and so on.");
        due(x.bestOf(1, 0) + x.bestOf(2, 0) + x.bestOf(3, 0), 2 + 4 + 8);
        x = Plans.threes();
        due(x.bestOf(1, 0), 2 + 16);
        due(x.bestOf(2, 0), 4 + 32);
        // the first set has 0 and 1, so 2 is the least that isn't in it
        x = Plans.plan(0, 2, 0, 5, 2, 0, 10, 15, 0, 1, 40, 50, 0, 1, 40, 50, 1, 0, 60, 70, 1, 0, 60, 70);
        due(x.bestOf(0, 0), 1 + 2);
        due(x.bestOf(2, 0), 4 + 16);
        due(x.bestOf(3, 0), 8 + 32);
    }

    private static void noFlights() {
        says("16, 21, 26, 27, 28, 31, 32", "(No FLIGHTS: a COVER of none, TOTAL 0,");
        CrewPairings x = new CrewPairings();
        due(x.best(0), 0);
        due(x.best(1), 0);
        due(x.best(2), 0);
        due(x.tree(0), 1);
        due(x.tree(1), 0);
        due(x.worst(99), NONE);
        due(x.drawn(7, 99), 0);
        due(x.chance(7, 3, 99, 0, 0), 1);
        due(x.chance(7, 3, 99, 0, 1), 1);
        due(x.film(0), 0);
        due(x.tells(0, 0), NONE);
        due(x.tells(0, 1), 0);
        due(x.tells(0, 2), 0);
        // also when there were some
        x = Plans.lonely();
        due(x.best(0), NONE);
        x.drop();
        due(x.best(0), 0);
        says("18, 22", "BOUND 0.)");
        x = new CrewPairings();
        due(x.bound(0), 0);
        due(x.bound(1), 1);
        x.sheet(0, 0, 0);
        due(x.proves(0, 1, 1), 1);
        x = Plans.lonely();
        due(x.bound(0), NO);
        x.drop();
        due(x.bound(0), 0);
    }

    private static void along() {
        says("16, 17", "Flown along in a COVER: FLIGHTS of the PAIRINGS BY which its sets are HAD that aren't of the set");
        due(Plans.calm().best(2), 0);
        CrewPairings x = Plans.fan();
        due(x.bestOf(0, 1), 5);
        due(x.bestOf(1, 1), 6);
        due(x.best(2), 1);
        says("16, 31", "(one as often as it is).");
        x = Plans.plan(0, 1, 0, 10, 0, 1, 0, 10, 0, 1, 0, 10, 1, 0, 20, 30);
        due(x.best(0), 60 + 60 + 40);
        due(x.best(2), 2);
        Plans.row(x, 0, 0, 1, 2, 4, 8);
        due(x.tells(0, 2), 4);
    }

    private static void fairPrices() {
        says("19, 22", "PRICES: of each FLIGHT a fraction,");
        long below = 0;
        for (int f = 0; f < 7; f++) {
            below = Math.max(below, Plans.halves().price(f, 1));
        }
        due(below, 2);
        due(told(Plans.halves(), 0, 100, 0, 41, 126, 83, 0, 3).proves(0, 2, 1), 1);
        says("19, 22", "0 or more;");
        // were -20 a price of flight 2, the others could be 60 and 58
        CrewPairings x = Plans.fan();
        due(x.bound(0), 78);
        due(x.price(0, 0), 40);
        due(x.price(1, 0), 38);
        due(x.price(2, 0), 0);
        Plans.row(x, 0, 0, 60, 58, -20);
        due(x.proves(0, 1, 0), STATE);

        says("19, 22", "they are FAIR, if of no set that is HAD they come to more together than it COSTS.");
        x = calmAndLonely();
        // {0}, {1} cost 55, {0, 1} costs 35, no other set is had
        fair(x, 35, 0, 0, NONE);
        fair(x, 0, 35, 0, NONE);
        fair(x, 18, 17, 0, NONE);
        fair(x, 18, 18, 0, 3);
        fair(x, 36, 0, 0, 3);
        fair(x, 55, 0, 0, 3);
        fair(x, 56, 0, 0, 1);
        fair(x, 0, 56, 0, 2);
        fair(x, 35, 0, 999999, NONE);
        fair(x, 0, 0, 0, NONE);
        for (CrewPairings y : plans()) {
            int flights = y.count(0);
            Plans.row(y, 0, 0, new long[flights]);
            for (int f = 0; f < flights; f++) {
                y.put(0, f, 2 * y.price(f, 0) / y.price(f, 1));
            }
            due(y.proves(0, 2, 0), NONE);
        }
    }

    private static void fair(CrewPairings x, int a, int b, int c, int want) {
        Plans.row(x, 0, 0, a, b, c);
        due(x.proves(0, 1, 0), want);
    }

    /** The most that prices come to, worked out by another program from what had() answers. */
    private static Fraction mostOf(CrewPairings x) {
        int flights = x.count(0);
        List<Fraction[]> rows = new ArrayList<>();
        for (int set = 1; set < 1 << flights; set++) {
            int cost = x.had(set, 0);
            if (cost == NONE) continue;
            Fraction[] row = new Fraction[flights + 1];
            for (int f = 0; f < flights; f++) {
                row[f] = Fraction.of(set >> f & 1);
            }
            row[flights] = Fraction.of(cost);
            rows.add(row);
        }
        Fraction[] goal = new Fraction[flights];
        Arrays.fill(goal, Fraction.of(1));
        Fraction sum = Fraction.ZERO;
        for (Fraction price : Linear.most(rows, goal)) {
            sum = sum.plus(price);
        }
        return sum;
    }

    private static void bounds() {
        says("18, 22", "BOUND: the most that FAIR PRICES of all FLIGHTS come to together");
        due(Plans.calm().bound(0), 35);
        due(Plans.halves().bound(0), 353);
        due(Plans.halves().bound(1), 2);
        for (CrewPairings x : plans()) {
            Fraction most = mostOf(x);
            due(x.bound(0), most.above.longValueExact());
            due(x.bound(1), most.below.longValueExact());
        }
        CrewPairings x = Plans.calm();
        Plans.row(x, 0, 0, 20, 15);
        due(x.proves(0, 1, 1), 1);
        Plans.row(x, 0, 0, 20, 14);
        due(x.proves(0, 1, 1), 0);

        says("18, 19, 20", "(NO: there is a FLIGHT that is in no set that is HAD).");
        for (int part = 0; part < 2; part++) {
            due(Plans.lonely().bound(part), NO);
            due(calmAndLonely().bound(part), NO);
            due(calmAndLonely().price(0, part), NO);
            due(Plans.calm().branch(0, 1, 2, part), NO);
        }
    }

    private static void prices(CrewPairings x, int n, int... want) {
        for (int f = 0; f < want.length; f++) {
            due(x.price(f, 0) * n, want[f] * x.price(f, 1));
        }
    }

    private static void pricesOfTheBound() {
        says("19", "PRICES of the BOUND: of FAIR ones that come to the BOUND those with the greatest PRICE of FLIGHT 0,");
        prices(Plans.calm(), 1, 35, 0);
        prices(Plans.plan(1, 0, 15, 25, 0, 1, 0, 10), 1, 35, 0);
        due(Plans.fan().price(0, 0), 40);
        due(Plans.chain().price(0, 0), 25);
        due(Plans.six().price(0, 0), 37);
        // out 1, 2, back 0, 3: {0, 1} 27, {1, 3} 29, {0, 2} 25, {2, 3} 27; 0 can have 25, if 2 has 0
        prices(Plans.of("base 3;fly 1 0 27 28;fly 0 1 11 12;fly 0 1 13 16;fly 1 0 26 30"), 1, 25, 2, 0, 27);
        says("19", "of these of FLIGHT 1, and so on.");
        prices(Plans.threes(), 1, 40, 40, 40, 0, 0, 0);
        // all four cost 45, the first two 25, the others 25: 20 are left, for the lesser number of the others
        prices(Plans.chain(), 1, 25, 0, 20, 0);
        CrewPairings x = Plans.plan(0, 1, 20, 25, 0, 1, 0, 5, 1, 0, 10, 15, 1, 0, 30, 35);
        x.kind(0, 2, 0);
        prices(x, 1, 25, 20, 0, 0);
        x = Plans.plan(1, 0, 10, 15, 1, 0, 30, 35, 0, 1, 20, 25, 0, 1, 0, 5);
        x.kind(0, 2, 0);
        prices(x, 1, 25, 20, 0, 0);
        prices(Plans.halves(), 2, 100, 0, 41, 126, 83, 0, 3);
        prices(Plans.of(Plans.FOUND[1]), 2, 43, 0, 68, 5, 0, 60, 37);
        prices(Plans.of(Plans.FOUND[2]), 2, 37, 9, 0, 31, 46, 31, 0);
        prices(Plans.of(Plans.FOUND[3]), 2, 91, 37, 0, 0, 89, 51, 37);
        prices(Plans.of(Plans.FOUND[4]), 2, 45, 0, 7, 0, 111, 35, 53);
        prices(Plans.of(Plans.FOUND[5]), 2, 0, 0, 1, 57, 30, 33, 50);
        prices(Plans.of(Plans.FOUND[6]), 2, 0, 199, 57, 0, 170, 0, 57);
        prices(Plans.of(Plans.FOUND[7]), 1, 66, 55, 104, 0, 0, 42, 61);
        prices(Plans.of(Plans.FOUND[8]), 1, 15, 0, 10, 10, 0, 0, 15);
        prices(Plans.of(Plans.FOUND[9]), 1, 108, 104, 36, 0, 0, 105, 81);
        prices(Plans.six(), 1, 37, 0, 39, 0, 33, 0);
    }

    /** How many nodes (0), how many without a cover (1), by the document's words and other calls alone. */
    private static int[] slowTree(Supplier<CrewPairings> plan, List<int[]> marks) {
        CrewPairings x = plan.get();
        for (int[] m : marks) {
            x.mark(m[0], m[1], m[2]);
        }
        if (x.best(0) == NONE) return new int[] {1, 1};
        if (x.bound(1) == 1 && x.best(0) == x.bound(0)) return new int[] {1, 0};
        int[] found = {1, 0};
        int[] two = firstTwo(x, marks);
        if (two == null) return found;
        for (int m = 1; m <= 2; m++) {
            List<int[]> below = new ArrayList<>(marks);
            below.add(new int[] {two[0], two[1], m});
            int[] more = slowTree(plan, below);
            found[0] += more[0];
            found[1] += more[1];
        }
        return found;
    }

    private static int[] firstTwo(CrewPairings x, List<int[]> marks) {
        boolean[] free = new boolean[49];
        int pairings = x.pairings(NONE);
        for (int k = 0; k < pairings; k++) {
            int last = NONE;
            for (int g : byDep(x, x.pairings(k))) {
                if (last != NONE) free[last * 7 + g] = true;
                last = g;
            }
        }
        for (int[] m : marks) {
            free[m[0] * 7 + m[1]] = false;
        }
        for (int two = 0; two < 49; two++) {
            if (free[two]) return new int[] {two / 7, two % 7};
        }
        return null;
    }

    private static List<Integer> byDep(CrewPairings x, int set) {
        List<Integer> flights = new ArrayList<>();
        for (int f = 0; f < 7; f++) {
            if ((set >> f & 1) != 0) flights.add(f);
        }
        flights.sort((a, b) -> x.of(a, 2) - x.of(b, 2));
        return flights;
    }

    private static void tree(Supplier<CrewPairings> plan, int... threes) {
        List<int[]> marks = new ArrayList<>();
        for (int i = 0; i < threes.length; i += 3) {
            marks.add(Arrays.copyOfRange(threes, i, i + 3));
        }
        int[] want = slowTree(plan, marks);
        CrewPairings x = marked(plan.get(), threes);
        due(x.tree(0), want[0] > 40 ? DEAR : want[0]);
        due(x.tree(1), want[0] > 40 ? DEAR : want[1]);
    }

    private static CrewPairings marked(CrewPairings x, int... threes) {
        for (int i = 0; i < threes.length; i += 3) {
            x.mark(threes[i], threes[i + 1], threes[i + 2]);
        }
        return x;
    }

    private static void trees() {
        says("21", "TREE: a NODE, with MARKS as they are:");
        due(Plans.fan().tree(0), 3);
        due(Plans.fan().tree(1), 2);
        due(marked(Plans.fan(), 0, 2, 2).tree(0), 1);
        due(marked(Plans.fan(), 0, 2, 2).tree(1), 1);
        CrewPairings x = marked(Plans.fan(), 0, 1, 2, 1, 0, 2);
        due(x.tree(0), 3);
        due(x.count(1), 2);
        due(x.mark(0, 2, 0) + x.mark(1, 2, 0), 0);

        says("21", "it is SHUT, if there is no COVER,");
        due(Plans.lonely().tree(0), 1);
        due(Plans.lonely().tree(1), 1);
        due(calmAndLonely().tree(0), 1);
        due(calmAndLonely().tree(1), 1);

        says("21", "or TOTAL of BEST is the BOUND;");
        due(Plans.calm().tree(0), 1);
        due(Plans.calm().tree(1), 0);
        due(Plans.threes().best(0) - Plans.threes().bound(0), 0);
        due(Plans.threes().tree(0), 1);
        due(Plans.threes().tree(1), 0);

        treesGrow();

        says("21", "(It is SHUT, too, if there are no such two.)");
        due(marked(Plans.calm(), 0, 1, 1).tree(0), 1);
        due(marked(Plans.calm(), 0, 1, 1).tree(1), 0);
        due(marked(Plans.chain(), 0, 1, 1, 1, 2, 1, 2, 3, 1).tree(0), 1);
        due(marked(Plans.chain(), 0, 1, 1, 1, 2, 1, 2, 3, 1).tree(1), 0);

        says("21", "Of more than 40 NODES: DEAR.");
        due(slowTree(Plans::bush, List.of())[0], 39);
        due(Plans.bush().tree(0), 39);
        due(Plans.bush().tree(1), slowTree(Plans::bush, List.of())[1]);
        due(slowTree(Plans::thicket, List.of())[0], 41);
        due(Plans.thicket().tree(0), DEAR);
        due(Plans.thicket().tree(1), DEAR);
    }

    private static void treesGrow() {
        says("21", "else, of all two FLIGHTS f, g without a MARK");
        int[][] twos = {{0, 6}, {4, 5}, {3, 1}, {4, 6}, {0, 5}, {2, 0}, {5, 2}};
        for (int[] two : twos) {
            tree(Plans::halves, two[0], two[1], 1);
            tree(Plans::halves, two[0], two[1], 2);
            tree(Plans::bush, two[0], two[1], 2);
        }
        says("21", "(by f, then g)");
        // were the last ones taken first, there would be other numbers of nodes
        tree(Plans::halves);
        tree(Plans::bush);
        tree(() -> Plans.of(Plans.FOUND[1]));
        tree(() -> Plans.of(Plans.FOUND[6]));
        says("21", "of which g is right behind f in a PAIRING (by the MARKS of that NODE),");
        tree(Plans::ring);
        tree(() -> Plans.of(Plans.FOUND[2]));
        tree(() -> Plans.of(Plans.FOUND[8]));
        tree(Plans::bush, 4, 2, 1);
        tree(Plans::bush, 4, 2, 2);
        says("21", "the first are MARKED MUST, which is a NODE below, and then NOT, which is another one.");
        // {0, 2} MUST: 1 is in no pairing; NOT: 0 is in none; they are nodes 2 and 3
        tree(Plans::fan);
        due(Plans.fan().branch(0, 2, 1, 0), NO);
        due(Plans.fan().branch(0, 2, 2, 0), NO);
        due(Plans.fan().tree(0), 3);
        due(Plans.ring().tree(0), 3);
    }

    private static void labels() {
        says("23, 24", "LABELS by told PRICES (a number for each FLIGHT):");
        label(Plans.calm(), 2, 0, 0, 0);
        way(Plans.calm(), 35, 0, 0);
        way(Plans.calm(), 35 - 5 - 60, 5, 60);
        way(Plans.calm(), 35 + 5 + 60, -5, -60);

        says("23, 24", "FLIGHTS by DEP");
        label(Plans.plan(1, 0, 15, 25, 0, 1, 0, 10), 2, 0, 0, 0);
        way(Plans.plan(1, 0, 15, 25, 0, 1, 0, 10), 35, 0, 0);
        // two out, of which one is dropped at the second leg, so one comes to the third
        label(Plans.plan(0, 1, 0, 5, 0, 1, 1, 6, 1, 2, 15, 20, 2, 0, 25, 30), 4, 1, 0, 0, 0, 0);
        label(Plans.plan(2, 0, 25, 30, 1, 2, 15, 20, 0, 1, 1, 6, 0, 1, 0, 5), 4, 1, 0, 0, 0, 0);
        says("23", "(like ones by number).");
        label(Plans.plan(2, 0, 25, 30, 0, 1, 0, 5, 1, 2, 15, 20, 0, 1, 0, 5), 4, 1, 0, 0, 0, 0);
        label(Plans.threes(), 6, 6, 0, 0, 0, 0, 0, 0);

        says("23, 24", "A LABEL at a FLIGHT: its BASE,");
        CrewPairings x = Plans.plan(0, 1, 0, 10, 2, 1, 0, 10, 1, 0, 15, 25);
        label(x, 2, 0, 0, 0, 0);
        x.base(5);
        label(x, 4, 0, 0, 0, 0);
        x.base(4);
        label(x, 2, 0, 0, 0, 0);
        way(x, NO, 0, 0, 0);
        says("24", "its COST less the PRICES of its FLIGHTS,");
        way(Plans.two(), 10 + 22 + 5 - 4 - 3, 4, 3);
        x = Plans.plan(0, 1, 0, 10, 1, 0, 30, 40);
        way(x, 20 + 40 - 4 - 3, 4, 3);
        x.fee(0, 99);
        x.fee(1, 9);
        way(x, 198 + 360 - 999999 + 999999, 999999, -999999);

        says("23, 24", "how many DUTIES,");
        // a third rest is too many
        x = Plans.plan(0, 1, 0, 2, 1, 2, 30, 32, 2, 3, 60, 62, 3, 0, 90, 92);
        label(x, 3, 0, 0, 0, 0, 0);
        x.shift(3, 67, 69);
        label(x, 4, 0, 0, 0, 0, 0);
        way(x, 30 + 69, 0, 0, 0, 0);
        says("23, 24", "how many LEGS in the last one,");
        // 0 -> 1 -> 2 -> 3 -> 0 by sits: a fourth leg is too many; by a rest behind the second all may go on
        x = Plans.plan(0, 1, 0, 2, 1, 2, 7, 9, 2, 3, 14, 16, 3, 0, 21, 23);
        label(x, 3, 0, 0, 0, 0, 0);
        x = Plans.plan(0, 1, 0, 2, 1, 2, 7, 9, 2, 3, 30, 32, 3, 0, 37, 39);
        label(x, 4, 0, 0, 0, 0, 0);
        way(x, 20 + 39, 0, 0, 0, 0);
        says("23", "when that began.");
        // the last duty begins at 50: 40 are fine, 41 aren't
        x.shift(2, 50, 52);
        x.shift(3, 60, 90);
        label(x, 4, 0, 0, 0, 0, 0);
        x.shift(3, 60, 91);
        label(x, 3, 0, 0, 0, 0, 0);
    }

    private static void labelsGoOn() {
        says("23", "At each FLIGHT from a BASE one begins;");
        CrewPairings x = Plans.plan(0, 1, 0, 5, 0, 2, 0, 5, 0, 3, 0, 5, 1, 2, 0, 5);
        label(x, 3, 0, 0, 0, 0, 0);
        x.base(3);
        label(x, 4, 0, 0, 0, 0, 0);
        x.base(2);
        label(x, 1, 0, 0, 0, 0, 0);
        x.base(0);
        label(x, 0, 0, 0, 0, 0, 0);

        says("23, 24", "each KEPT at a FLIGHT goes on to each that FOLLOWS");
        x = Plans.plan(0, 1, 0, 10, 1, 0, 15, 25, 1, 2, 15, 25, 1, 3, 40, 45, 2, 3, 12, 20);
        label(x, 4, 0, 0, 0, 0, 0, 0);
        way(x, 35, 0, 0, 0, 0, 0);
        // the dropped one doesn't go on: at the third leg one comes
        label(Plans.plan(0, 1, 0, 5, 0, 1, 0, 5, 1, 2, 15, 20, 2, 0, 25, 30), 4, 1, 0, 0, 0, 0);
        says("23, 24", "(MARKS don't matter),");
        marked(x, 0, 1, 2, 0, 2, 1, 1, 2, 1);
        label(x, 4, 0, 0, 0, 0, 0, 0);
        way(x, 35, 0, 0, 0, 0, 0);
        limits();
        says("23", "(also of one that begins).");
        label(Plans.plan(0, 1, 0, 40), 1, 0, 0);
        label(Plans.plan(0, 1, 0, 41), 0, 0, 0);
        x = Plans.plan(0, 1, 0, 31);
        x.kind(1, 3, 9);
        label(x, 1, 0, 0);
        x.kind(0, 3, 9);
        label(x, 1, 0, 0);
        x.shift(0, 0, 32);
        label(x, 0, 0, 0);
    }

    private static void limits() {
        says("23", "if LEGS, SPAN, DUTIES by its BASE aren't too many then");
        // LEGS
        CrewPairings x = Plans.plan(0, 1, 0, 2, 1, 2, 7, 9, 2, 3, 14, 16, 3, 0, 21, 23);
        x.kind(1, 3, 0);
        x.kind(2, 3, 0);
        label(x, 3, 0, 0, 0, 0, 0);
        x.kind(0, 3, 0);
        label(x, 2, 0, 0, 0, 0, 0);
        x.kind(0, 2, 0);
        label(x, 4, 0, 0, 0, 0, 0);
        // LEGS of the last duty: 1, then a rest, then 3; then 4
        x = Plans.plan(0, 1, 0, 2, 1, 2, 30, 32, 2, 3, 37, 39, 3, 0, 44, 46);
        label(x, 4, 0, 0, 0, 0, 0);
        way(x, 20 + 46, 0, 0, 0, 0);
        // (to the fifth flight one comes from the second)
        x = Plans.plan(0, 1, 0, 2, 1, 2, 30, 32, 2, 3, 37, 39, 3, 2, 44, 46, 2, 0, 51, 53);
        label(x, 5, 0, 0, 0, 0, 0, 0);
        way(x, 20 + 53, 0, 0, 0, 999, 0);
        // SPAN
        x = Plans.plan(0, 1, 0, 10, 1, 0, 15, 40);
        label(x, 2, 0, 0, 0);
        x.shift(1, 15, 41);
        label(x, 1, 0, 0, 0);
        // DUTIES
        x = Plans.plan(0, 1, 0, 2, 1, 2, 30, 32, 2, 3, 60, 62, 3, 0, 90, 92);
        label(x, 3, 0, 0, 0, 0, 0);
        x.kind(0, 4, 0);
        label(x, 2, 0, 0, 0, 0, 0);
    }

    private static void labelsAreDropped() {
        says("23", "One is DROPPED, if another one at the same FLIGHT of the same BASE");
        // at flight 2 one of each base, alike but for that; the same at flight 3
        CrewPairings x = Plans.plan(0, 1, 0, 10, 2, 1, 0, 10, 1, 0, 15, 25, 1, 0, 15, 25);
        x.base(5);
        label(x, 6, 0, 0, 0, 0, 0);
        label(x, 6, 0, 0, 50, 0, 0);
        x.base(1);
        label(x, 3, 0, 0, 0, 0, 0);
        label(Plans.threes(), 6, 6, 0, 0, 0, 0, 0, 0);
        says("23", "has no more COST less PRICES,");
        // at flight 2 those by 0 and by 1 come: COST 40 and 38, begun at 0 and 2
        label(Plans.fan(), 3, 1, 0, 0, 0);
        label(Plans.fan(), 3, 1, 2, 0, 0);
        label(Plans.fan(), 4, 0, 3, 0, 0);
        label(Plans.fan(), 3, 1, 0, 7, 0);
        says("23", "DUTIES,");
        // the one by a rest costs less, has fewer legs, begins later
        x = Plans.plan(0, 1, 0, 5, 0, 1, 20, 25, 1, 0, 30, 35);
        label(x, 4, 0, 100, 0, 0);
        label(x, 4, 0, 0, 0, 0);
        says("23", "LEGS,");
        // the one with three costs no more and begins no earlier than the one with two
        x = Plans.plan(0, 1, 10, 12, 1, 2, 17, 19, 0, 2, 5, 19, 2, 0, 25, 30);
        label(x, 5, 0, 0, 0, 0, 0);
        // .. until that begins no earlier and costs no more
        x.shift(2, 10, 19);
        label(x, 4, 1, 0, 0, 0, 0);
        label(x, 4, 1, 0, 0, 9, 0);
        label(x, 5, 0, 1, 0, 0, 0);
        says("23", "and begins its last DUTY no earlier");
        // begun alike: the one that costs less outdoes the other one
        x = Plans.fan();
        x.shift(1, 0, 10);
        label(x, 3, 1, 1, 0, 0);
        label(x, 3, 1, 0, 1, 0);
        // .. begun earlier, it doesn't
        x.shift(1, 1, 10);
        label(x, 4, 0, 2, 0, 0);
        x.shift(0, 2, 10);
        label(x, 3, 1, 2, 0, 0);

        says("23", "(of those alike in all one is KEPT);");
        label(Plans.threes(), 6, 6, 0, 0, 0, 0, 0, 0);
        x = Plans.fan();
        x.shift(1, 0, 10);
        label(x, 3, 1, 0, 0, 0);

        says("23", "others are KEPT.");
        label(Plans.threes(), 6, 6, 0, 0, 0, 0, 0, 9);
        label(Plans.fan(), 4, 0, 3, 0, 0);
        label(Plans.plan(0, 1, 0, 5, 0, 1, 20, 25, 1, 0, 30, 35), 4, 0, 0, 0, 0);
    }

    private static void ways() {
        says("24", "WAY: the least COST less PRICES of a LABEL that is where its BASE is.");
        way(Plans.fan(), 38, 0, 0, 0);
        way(Plans.fan(), 37, 3, 0, 0);
        way(Plans.lonely(), NO, 99);
        CrewPairings x = Plans.chain();
        way(x, 25, 0, 0, 0, 0);
        way(x, 45 - 100, 40, 10, 10, 40);
        // only the one of base 2 comes to 0, only the one of base 0 comes to 2
        x = Plans.plan(0, 1, 0, 10, 1, 2, 15, 25, 2, 3, 0, 10, 3, 0, 15, 25);
        x.base(5);
        way(x, NO, 0, 0, 0, 0);
        Plans.fly(x, 3, 2, 15, 30);
        way(x, 40, 0, 0, 0, 0, 0);
    }

    private static void late() {
        says("25, 26", "LATE: FLIGHTS have own DELAYS (0 at first in thought);");
        CrewPairings x = Plans.calm();
        due(x.late(0, 0, 0), 0);
        due(x.late(0, 0, 1), 0);
        due(x.late(1, 9, 0), 2);
        due(x.late(1, 9, 1), 9);
        // what was asked before is forgotten
        due(x.late(0, 9, 1), 9 + 7);
        due(x.late(1, 1, 1), 1);

        says("25, 26, 27", "by DEP");
        // the chain backwards: 3, 2, 1, 0 by DEP; slacks 2, 3, 2
        x = Plans.plan(1, 0, 30, 35, 0, 1, 20, 25, 1, 0, 10, 15, 0, 1, 0, 5);
        x.kind(0, 2, 0);
        due(x.bestOf(0, 0), 15);
        due(x.late(3, 9, 0), 15);
        due(x.late(3, 9, 1), 9 + 7 + 4 + 2);
        due(x.late(1, 9, 0), 3);
        says("25", "(like ones by number)");
        due(Plans.threes().late(2, 99, 1), 99 + 92);
        due(Plans.threes().late(2, 99, 0), 4 + 32);
        says("25", "each is as LATE as its own DELAY,");
        due(x.late(0, 99, 1), 99);
        due(x.late(0, 99, 0), 1);
        due(x.late(3, 2, 1), 2);
        says("25", "or as one that is right ahead of it in a PAIRING by which a set of BEST is HAD is LATE less SLACK,");
        due(x.late(3, 5, 0), 12);
        due(x.late(3, 5, 1), 5 + 3);
        due(x.late(3, 2, 0), 8);
        // one that isn't in a pairing of BEST with it, though it could be: 4 behind 3
        x = Plans.six();
        due(x.pairing(60, 1), 2);
        due(x.bestOf(3, 1) + x.bestOf(4, 1), 12 + 48);
        due(x.late(3, 99, 0), 8);
        // right ahead, too, where it is flown along: 2 is of {1, 2}, and behind 0; slacks 7
        x = Plans.fan();
        due(x.bestOf(2, 0), 6);
        due(x.late(0, 9, 0), 5);
        due(x.late(0, 9, 1), 9 + 2);
        due(x.late(1, 9, 0), 6);
        says("27", "whichever is most.");
        // two ahead of flight 2, and an own one
        for (int seed = 1; seed < 60; seed++) {
            int[] own = own(seed, 30, 3);
            int third = Math.max(own[2], Math.max(own[0], own[1]) - 7);
            due(x.drawn(seed, 30), own[0] + own[1] + third);
        }
    }

    /** By the document's words, on longs. */
    private static int[] own(int seed, int n, int flights) {
        int[] own = new int[flights];
        long z = seed & 0xFFFFFFFFL;
        for (int f = 0; f < flights; f++) {
            z = z * 1103515245L + 12345L & 0xFFFFFFFFL;
            own[f] = (int) ((z >> 9) % n);
        }
        return own;
    }

    private static void drawn() {
        int[] seeds = {0, 1, -1, 12345, LOW, HIGH, LOW + 1, HIGH - 1, 1 << 30, 0xCAFEBABE};
        says("27", "DRAWN by a SEED, z being z * 1103515245 + 12345 (an int;");
        // a slack of more than any delay
        CrewPairings x = Plans.plan(0, 1, 0, 10, 1, 0, 150, 160);
        for (int seed : seeds) {
            int[] own = own(seed, 99, 2);
            due(x.drawn(seed, 99), own[0] + own[1]);
        }
        says("27", "SEED at first) anew for each FLIGHT, by numbers:");
        // by numbers, not by DEP: flight 1 is ahead of flight 0, slack 2
        x = Plans.plan(1, 0, 15, 25, 0, 1, 0, 10);
        for (int seed : seeds) {
            int[] own = own(seed, 99, 2);
            due(x.drawn(seed, 99), own[1] + Math.max(own[0], own[1] - 2));
        }
        says("27", "its own DELAY (z >>> 9) % n.");
        for (int n = 1; n <= 99; n++) {
            int[] own = own(n * 77, n, 2);
            due(x.drawn(n * 77, n), own[1] + Math.max(own[0], own[1] - 2));
        }
    }

    private static void inSeeds() {
        CrewPairings x = Plans.calm();
        says("28", "IN m seeds (1 .. 20),");
        due(x.chance(1, 1, 99, 9999, 0), 1);
        due(x.chance(1, 20, 99, 9999, 0), 1);
        due(x.chance(1, 0, 50, 45, 0), BAD);
        due(x.chance(1, 21, 50, 45, 0), BAD);
        says("28", "SEED and each 1 more (an int):");
        for (int seed : new int[] {0, 77, -1, LOW, HIGH, HIGH - 5}) {
            for (int m = 1; m <= 20; m++) {
                int[] sums = new int[m];
                for (int i = 0; i < m; i++) {
                    int[] own = own(seed + i, 50, 2);
                    sums[i] = own[0] + Math.max(own[1], own[0] - 2);
                }
                long in = Arrays.stream(sums).filter(sum -> sum <= 45).count();
                due(x.chance(seed, m, 50, 45, 0) * m, in * x.chance(seed, m, 50, 45, 1));
            }
        }

        says("28", "of these those by which all FLIGHTS' LATE come to w or less together.");
        for (int seed = 0; seed < 20; seed++) {
            int sum = Plans.calm().drawn(seed, 99);
            due(x.chance(seed, 1, 99, sum, 0), 1);
            due(x.chance(seed, 1, 99, sum + 1, 0), 1);
            if (sum > 0) due(x.chance(seed, 1, 99, sum - 1, 0), 0);
        }
    }
}
