import java.util.Arrays;

/**
 * Crews for flights: which flight may follow which, pairings and what they cost, covers of all
 * flights, prices that prove a bound, branches, labels, delays, texts of clauses and an image.
 *
 * All rows are made with the object and used again: no call makes anything.
 */
public final class CrewPairings {
    public static final int NONE = -1, BAD = -2, STATE = -3, FULL = -4, DEAR = -5;
    public static final long NO = Long.MIN_VALUE;

    private static final int MISSING = -11, OUTSIDE = -12, UNLIKE = -13, TOO_SMALL = -14;
    private static final int AIRPORTS = 4, FLIGHTS = 7, TIMES = 300;
    private static final int TWOS = FLIGHTS * FLIGHTS, SETS = 1 << FLIGHTS;
    private static final int PLAIN = 0, STRICT = 1, LAX = 2, NIGHT = 3, CHARTER = 4, UNION = 5;
    private static final int KINDS = 6, FIGURES = 10;
    private static final int DUTY = 0, AWAY = 1, TIGHT = 2, HEAD = 3, BUFFER = 4, FEES = 5;
    private static final int FREE = 0, MUST = 1, NOT = 2;
    private static final int SIT = 1, REST = 2;
    private static final int LONGS = 0, INTS = 1;
    private static final int FAULT = -100, FIRST_FEE = 10, MOST_PRICE = 999999;

    private static final int[] FEE_TOPS = {99, 9, 99, 99, 20};

    private final Plan plan;
    private final Plan kept;
    private final Network network;
    private final Covers covers;
    private final Simplex simplex;
    private final Branches branches;
    private final Labels ways;
    private final Delays delays;
    private final Tape tape;
    private final Sheets sheets;
    private final long[] toldPrices;
    private boolean hasImage;
    private boolean hasBound;
    private int workedAt;
    private int pricedAt;
    private int grownAt;

    public CrewPairings() {
        plan = new Plan();
        kept = new Plan();
        network = new Network(plan);
        covers = new Covers(plan, network);
        simplex = new Simplex(plan);
        branches = new Branches(plan, new Covers(plan, network), simplex);
        ways = new Labels(plan, network);
        delays = new Delays(plan, network);
        tape = new Tape();
        sheets = new Sheets();
        toldPrices = new long[FLIGHTS];
        workedAt = NONE;
        pricedAt = NONE;
        grownAt = NONE;
    }

    // ---- flights, airports

    public int fly(int from, int to, int dep, int arr) {
        if (!isAirport(from) || !isAirport(to) || from == to || !areTimes(dep, arr)) {
            return BAD;
        }
        if (plan.size >= FLIGHTS) {
            return FULL;
        }
        return plan.addFlight(from, to, dep, arr);
    }

    public int drop() {
        if (plan.size == 0) {
            return STATE;
        }
        return plan.dropLatest();
    }

    public int of(int flight, int what) {
        if (!plan.hasFlight(flight)) {
            return BAD;
        }
        refresh();
        switch (what) {
            case 0: return plan.from[flight];
            case 1: return plan.to[flight];
            case 2: return plan.dep[flight];
            case 3: return plan.arr[flight];
            case 4: return network.followers(flight, SIT);
            case 5: return network.followers(flight, REST);
            case 6: return network.tightFollowers(flight);
            default: return BAD;
        }
    }

    public int shift(int flight, int dep, int arr) {
        if (!plan.hasFlight(flight) || !areTimes(dep, arr)) {
            return BAD;
        }
        int was = plan.dep[flight];
        plan.setTimes(flight, dep, arr);
        return was;
    }

    public int kind(int airport, int kind, int figure) {
        if (!isAirport(airport) || !isBelow(kind, KINDS) || !isBelow(figure, FIGURES)) {
            return BAD;
        }
        int was = 10 * plan.kinds[airport] + plan.figures[airport];
        plan.setKind(airport, kind, figure);
        return was;
    }

    public int told(int airport, int what) {
        if (!isAirport(airport)) {
            return BAD;
        }
        switch (what) {
            case 0: return plan.kinds[airport];
            case 1: return plan.figures[airport];
            case 2: return plan.sitAt(airport);
            case 3: return plan.restAt(airport);
            case 4: return plan.legsOf(airport);
            case 5: return plan.spanOf(airport);
            case 6: return plan.dutiesOf(airport);
            default: return BAD;
        }
    }

    public int taken(int airport, int k) {
        if (!isAirport(airport) || !isBelow(k, KINDS)) {
            return BAD;
        }
        return Rules.isUnder(plan.kinds[airport], k) ? plan.spanOf(airport) : UNLIKE;
    }

    public int base(int bases) {
        if (!isBelow(bases, 1 << AIRPORTS)) {
            return BAD;
        }
        int was = plan.bases;
        plan.setBases(bases);
        return was;
    }

    public int fee(int which, int v) {
        if (!isBelow(which, FEES) || v < 0 || v > FEE_TOPS[which]) {
            return BAD;
        }
        int was = plan.fees[which];
        plan.setFee(which, v);
        return was;
    }

    public int mark(int f, int g, int m) {
        if (!plan.areTwo(f, g) || m < FREE || m > NOT) {
            return BAD;
        }
        int was = plan.marks[f * FLIGHTS + g];
        plan.setMark(f, g, m);
        return was;
    }

    // ---- pairings

    public int follows(int f, int g) {
        if (!plan.areTwo(f, g)) {
            return BAD;
        }
        refresh();
        return network.how[f * FLIGHTS + g];
    }

    public int pairing(int set, int what) {
        if (!plan.isSet(set) || what < 0 || what > 3) {
            return BAD;
        }
        refresh();
        if (!covers.open[set]) {
            return NONE;
        }
        switch (what) {
            case 0: return network.cost[set];
            case 1: return network.duties[set];
            case 2: return network.tights[set];
            default: return network.home[set];
        }
    }

    public int pairings(int k) {
        refresh();
        if (k == NONE) {
            return covers.pairingCount();
        }
        int found = covers.pairingAt(k);
        return found == NONE ? OUTSIDE : found;
    }

    public int had(int set, int what) {
        if (!plan.isSet(set) || !isHalf(what)) {
            return BAD;
        }
        refresh();
        return what == 0 ? covers.cost[set] : covers.by[set];
    }

    // ---- covers, prices

    public int best(int what) {
        if (what < 0 || what > 2) {
            return BAD;
        }
        refresh();
        if (!covers.hasCover()) {
            return NONE;
        }
        switch (what) {
            case 0: return covers.leastTotal();
            case 1: return covers.bestSets();
            default: return covers.bestAlong();
        }
    }

    public int bestOf(int flight, int what) {
        if (!plan.hasFlight(flight) || !isHalf(what)) {
            return BAD;
        }
        refresh();
        int set = covers.bestSetWith(flight);
        if (set == NONE) {
            return NONE;
        }
        return what == 0 ? set : covers.by[set];
    }

    public long bound(int part) {
        if (!isHalf(part) || !isPriced()) {
            return NO;
        }
        return simplex.lowest(0, part);
    }

    public long price(int flight, int part) {
        if (!plan.hasFlight(flight) || !isHalf(part) || !isPriced()) {
            return NO;
        }
        return simplex.lowest(1 + flight, part);
    }

    public long branch(int f, int g, int m, int part) {
        if (!plan.areTwo(f, g) || m < MUST || m > NOT || !isHalf(part)) {
            return NO;
        }
        refresh();
        pricedAt = NONE;
        return branches.hasBoundWith(f, g, m) ? simplex.lowest(0, part) : NO;
    }

    public int tree(int what) {
        if (!isHalf(what)) {
            return BAD;
        }
        refresh();
        if (grownAt != plan.version) {
            pricedAt = NONE;
            branches.grow();
            grownAt = plan.version;
        }
        if (branches.isDear()) {
            return DEAR;
        }
        return what == 0 ? branches.nodes : branches.lost;
    }

    public int proves(int sheet, int n, int what) {
        if (!sheets.isSheet(sheet) || n < 1 || n > 99 || !isHalf(what)) {
            return BAD;
        }
        int refusal = takePrices(sheet, 0);
        if (refusal != 0) {
            return refusal;
        }
        refresh();
        int unfair = covers.firstUnfair(toldPrices, n);
        if (what == 0) {
            return unfair;
        }
        boolean proven = unfair == NONE && isPriced() && simplex.boundIs(sumOfTold(), n);
        return proven ? 1 : 0;
    }

    // ---- labels

    public int labels(int sheet, int what) {
        if (!sheets.isSheet(sheet) || !isHalf(what)) {
            return BAD;
        }
        int refusal = takePrices(sheet, -MOST_PRICE);
        if (refusal != 0) {
            return refusal;
        }
        refresh();
        ways.workOut(toldPrices);
        return what == 0 ? ways.keptCount() : ways.dropped;
    }

    public long way(int sheet) {
        if (!sheets.isSheet(sheet) || takePrices(sheet, -MOST_PRICE) != 0) {
            return NO;
        }
        refresh();
        ways.workOut(toldPrices);
        return ways.leastHome();
    }

    // ---- who is late

    public int late(int flight, int d, int what) {
        if (!plan.hasFlight(flight) || !isBelow(d, 100) || !isHalf(what)) {
            return BAD;
        }
        refresh();
        if (!covers.hasCover()) {
            return STATE;
        }
        int together = delays.byOne(flight, d);
        return what == 0 ? delays.lateFlights() : together;
    }

    public int worst(int d) {
        if (!isBelow(d, 100)) {
            return BAD;
        }
        refresh();
        if (!covers.hasCover()) {
            return STATE;
        }
        int found = NONE;
        int most = NONE;
        for (int f = 0; f < plan.size; f++) {
            int together = delays.byOne(f, d);
            if (together > most) {
                most = together;
                found = f;
            }
        }
        return found;
    }

    public int drawn(int seed, int n) {
        if (n < 1 || n > 99) {
            return BAD;
        }
        refresh();
        return covers.hasCover() ? delays.bySeed(seed, n) : STATE;
    }

    public int chance(int seed, int m, int n, int w, int part) {
        if (m < 1 || m > 20 || n < 1 || n > 99 || !isBelow(w, 10000) || !isHalf(part)) {
            return BAD;
        }
        refresh();
        if (!covers.hasCover()) {
            return STATE;
        }
        int inTime = 0;
        for (int i = 0; i < m; i++) {
            if (delays.bySeed(seed + i, n) <= w) {
                inTime++;
            }
        }
        return (int) inLowest(inTime, m, part);
    }

    // ---- texts

    public int feed(int n, int a, int b, int c, int d, int e) {
        if (n < 1 || n > 5 || !isByte(a) || !isByte(b) || !isByte(c) || !isByte(d) || !isByte(e)) {
            return BAD;
        }
        if (!tape.hasRoom(n)) {
            return FULL;
        }
        tape.add(a);
        if (n > 1) {
            tape.add(b);
        }
        if (n > 2) {
            tape.add(c);
        }
        if (n > 3) {
            tape.add(d);
        }
        if (n > 4) {
            tape.add(e);
        }
        return tape.size;
    }

    public int text() {
        int fault = tape.parse();
        tape.size = 0;
        return fault == NONE ? doClauses() : FAULT - fault;
    }

    // ---- what was told

    public int tells(int sheet, int what) {
        if (!sheets.isSheet(sheet) || what < 0 || what > 2) {
            return BAD;
        }
        if (sheets.isMissing(sheet)) {
            return MISSING;
        }
        if (sheets.sizes[sheet] > FLIGHTS) {
            return BAD;
        }
        refresh();
        int wrong = firstWrong(sheet);
        if (what == 0) {
            return wrong;
        }
        if (wrong != NONE || !hasAllFlights(sheet)) {
            return NONE;
        }
        return what == 1 ? totalOf(sheet) : alongOf(sheet);
    }

    public int film(int sheet) {
        if (!sheets.isSheet(sheet)) {
            return BAD;
        }
        refresh();
        if (!covers.hasCover()) {
            return NONE;
        }
        int size = covers.bestSets();
        sheets.become(sheet, LONGS, size);
        int rest = plan.allFlights();
        for (int i = 0; i < size; i++) {
            int set = covers.choice[rest];
            sheets.write(sheet, i, set);
            rest &= ~set;
        }
        return size;
    }

    public int load(int sheet, int sort, int from, int n) {
        if (!sheets.isSheet(sheet) || (sort != LONGS && sort != INTS) || n < 0 || n > FLIGHTS) {
            return BAD;
        }
        if (sheets.isMissing(sheet)) {
            return MISSING;
        }
        if (sheets.sorts[sheet] != sort) {
            return UNLIKE;
        }
        int came = 0;
        for (int k = 0; k < n; k++) {
            // a long: the place may lie beyond the greatest int
            long at = from + 4L * k;
            if (at < 0 || at + 4 > sheets.sizes[sheet]) {
                return OUTSIDE;
            }
            if (loadOne(sheet, (int) at) >= 0) {
                came++;
            }
        }
        return came;
    }

    public int image() {
        kept.takeFrom(plan);
        hasImage = true;
        return plan.size;
    }

    public int back() {
        if (!hasImage) {
            return STATE;
        }
        plan.takeFrom(kept);
        return plan.size;
    }

    public int count(int what) {
        if (what >= FIRST_FEE && what < FIRST_FEE + FEES) {
            return plan.fees[what - FIRST_FEE];
        }
        refresh();
        switch (what) {
            case 0: return plan.size;
            case 1: return plan.markCount();
            case 2: return tape.size;
            case 3: return network.followCount();
            case 4: return covers.hadCount();
            case 5: return plan.bases;
            default: return BAD;
        }
    }

    // ---- the host

    public int sheet(int sheet, int sort, int n) {
        if (!sheets.isSheet(sheet) || sort < NONE || sort > INTS) {
            return BAD;
        }
        if (sort == NONE) {
            sheets.become(sheet, NONE, 0);
            return 1;
        }
        if (n > Sheets.LONGEST) {
            return BAD;
        }
        if (n < 0) {
            return TOO_SMALL;
        }
        sheets.become(sheet, sort, n);
        return 1;
    }

    public int put(int sheet, int i, long v) {
        if (!sheets.isSheet(sheet)) {
            return BAD;
        }
        if (sheets.isMissing(sheet)) {
            return MISSING;
        }
        if (!sheets.hasItems(sheet, i, 1)) {
            return OUTSIDE;
        }
        sheets.write(sheet, i, v);
        return 1;
    }

    public long item(int sheet, int i) {
        if (!sheets.isSheet(sheet) || sheets.isMissing(sheet) || !sheets.hasItems(sheet, i, 1)) {
            return NO;
        }
        return sheets.read(sheet, i);
    }

    public int copy(int sheet, int i, int other, int j, int n) {
        if (!sheets.isSheet(sheet) || !sheets.isSheet(other)) {
            return BAD;
        }
        if (sheets.isMissing(sheet) || sheets.isMissing(other)) {
            return MISSING;
        }
        if (sheets.sorts[sheet] != sheets.sorts[other]) {
            return UNLIKE;
        }
        if (n < 0 || !sheets.hasItems(sheet, i, n) || !sheets.hasItems(other, j, n)) {
            return OUTSIDE;
        }
        sheets.move(sheet, i, other, j, n);
        return n;
    }

    // ---- helpers of the calls

    private static boolean isBelow(int v, int end) {
        return v >= 0 && v < end;
    }

    private static boolean isHalf(int v) {
        return v == 0 || v == 1;
    }

    private static boolean isByte(int v) {
        return isBelow(v, 256);
    }

    private static boolean isAirport(int v) {
        return isBelow(v, AIRPORTS);
    }

    private static boolean areTimes(int dep, int arr) {
        return isBelow(dep, TIMES) && isBelow(arr, TIMES) && dep < arr;
    }

    private static long inLowest(long above, long below, int part) {
        long a = above;
        long b = below;
        // Euclid's steps on longs are fewer than 100
        for (int i = 0; i < 200 && b != 0; i++) {
            long rest = a % b;
            a = b;
            b = rest;
        }
        if (a == 0) {
            return NO;
        }
        return part == 0 ? above / a : below / a;
    }

    private void refresh() {
        if (workedAt != plan.version) {
            network.workOut();
            covers.workOut(plan.marks);
            delays.learn(covers);
            workedAt = plan.version;
        }
    }

    private boolean isPriced() {
        refresh();
        if (pricedAt != plan.version) {
            hasBound = simplex.solve(covers, 1 + plan.size);
            pricedAt = plan.version;
        }
        return hasBound;
    }

    private int takePrices(int sheet, long least) {
        if (sheets.isMissing(sheet)) {
            return MISSING;
        }
        if (sheets.sizes[sheet] != plan.size) {
            return STATE;
        }
        for (int f = 0; f < plan.size; f++) {
            toldPrices[f] = sheets.read(sheet, f);
            if (toldPrices[f] < least || toldPrices[f] > MOST_PRICE) {
                return STATE;
            }
        }
        return 0;
    }

    private long sumOfTold() {
        long sum = 0;
        for (int f = 0; f < plan.size; f++) {
            sum += toldPrices[f];
        }
        return sum;
    }

    private int firstWrong(int sheet) {
        int seen = 0;
        for (int i = 0; i < sheets.sizes[sheet]; i++) {
            long set = sheets.read(sheet, i);
            if (!covers.isHad(set) || ((int) set & seen) != 0) {
                return i;
            }
            seen |= (int) set;
        }
        return NONE;
    }

    private boolean hasAllFlights(int sheet) {
        int seen = 0;
        for (int i = 0; i < sheets.sizes[sheet]; i++) {
            seen |= (int) sheets.read(sheet, i);
        }
        return seen == plan.allFlights();
    }

    private int totalOf(int sheet) {
        int total = 0;
        for (int i = 0; i < sheets.sizes[sheet]; i++) {
            total += covers.costOf(sheets.read(sheet, i));
        }
        return total;
    }

    private int alongOf(int sheet) {
        int along = 0;
        for (int i = 0; i < sheets.sizes[sheet]; i++) {
            along += covers.alongWith(sheets.read(sheet, i));
        }
        return along;
    }

    private int loadOne(int sheet, int at) {
        return fly((int) sheets.read(sheet, at), (int) sheets.read(sheet, at + 1),
                (int) sheets.read(sheet, at + 2), (int) sheets.read(sheet, at + 3));
    }

    private int doClauses() {
        int done = 0;
        int at = 0;
        // each clause has a token at least, so the tape's length bounds them
        for (int i = 0; i < Tape.LONGEST && at < tape.tokens; i++) {
            if (doClause(at) >= 0) {
                done++;
            }
            at += 1 + Tape.numbersOf(tape.token(at));
        }
        return done;
    }

    private int doClause(int at) {
        int a = tape.token(at + 1);
        int b = tape.token(at + 2);
        int c = tape.token(at + 3);
        switch (tape.token(at)) {
            case Tape.FLY_WORD: return fly(a, b, c, tape.token(at + 4));
            case Tape.KIND_WORD: return kind(a, b, c);
            case Tape.BASE_WORD: return base(a);
            case Tape.FEE_WORD: return fee(a, b);
            case Tape.MUST_WORD: return mark(a, b, MUST);
            case Tape.NOT_WORD: return mark(a, b, NOT);
            default: return mark(a, b, FREE);
        }
    }

    /** What the kinds of airports rule. */
    private static final class Rules {
        static int parentOf(int kind) {
            switch (kind) {
                case STRICT: case LAX: case UNION: return PLAIN;
                case NIGHT: return STRICT;
                case CHARTER: return LAX;
                default: return NONE;
            }
        }

        static boolean isUnder(int kind, int other) {
            int at = kind;
            for (int i = 0; i < KINDS && at != NONE; i++) {
                if (at == other) {
                    return true;
                }
                at = parentOf(at);
            }
            return false;
        }

        static int sit(int kind, int figure) {
            switch (kind) {
                case STRICT: case NIGHT: return 3 + figure % 3;
                case LAX: return 2;
                case CHARTER: return 1;
                case UNION: return 4 + figure;
                default: return 3;
            }
        }

        static int rest(int kind, int figure) {
            switch (kind) {
                case STRICT: return 20 + figure;
                case NIGHT: return 15 + figure;
                case CHARTER: return 20 - figure;
                default: return 20;
            }
        }

        static int legs(int kind) {
            switch (kind) {
                case LAX: case CHARTER: return 4;
                case NIGHT: case UNION: return 2;
                default: return 3;
            }
        }

        static int span(int kind, int figure) {
            switch (kind) {
                case STRICT: case NIGHT: return 40 - figure;
                case LAX: return 40 + figure;
                case CHARTER: return 50 + figure;
                default: return 40;
            }
        }

        static int duties(int kind) {
            return kind == CHARTER || kind == UNION ? 2 : 3;
        }
    }

    /** All that an image keeps; each change gives it another version, never one it had. */
    private static final class Plan {
        final int[] from = new int[FLIGHTS];
        final int[] to = new int[FLIGHTS];
        final int[] dep = new int[FLIGHTS];
        final int[] arr = new int[FLIGHTS];
        final int[] kinds = new int[AIRPORTS];
        final int[] figures = new int[AIRPORTS];
        final int[] fees = {10, 1, 5, 20, 2};
        final int[] marks = new int[TWOS];
        int size = 0;
        int bases = 1;
        int version = 0;

        boolean hasFlight(int f) {
            return f >= 0 && f < size;
        }

        boolean areTwo(int f, int g) {
            return hasFlight(f) && hasFlight(g) && f != g;
        }

        boolean isSet(int set) {
            return set > 0 && set <= allFlights();
        }

        int allFlights() {
            return (1 << size) - 1;
        }

        boolean isBase(int airport) {
            return (bases >> airport & 1) != 0;
        }

        int addFlight(int newFrom, int newTo, int newDep, int newArr) {
            int flight = size;
            from[flight] = newFrom;
            to[flight] = newTo;
            size++;
            setTimes(flight, newDep, newArr);
            return flight;
        }

        int dropLatest() {
            size--;
            for (int f = 0; f < FLIGHTS; f++) {
                marks[size * FLIGHTS + f] = FREE;
                marks[f * FLIGHTS + size] = FREE;
            }
            version++;
            return size;
        }

        void setTimes(int flight, int newDep, int newArr) {
            dep[flight] = newDep;
            arr[flight] = newArr;
            version++;
        }

        void setKind(int airport, int kind, int figure) {
            kinds[airport] = kind;
            figures[airport] = figure;
            version++;
        }

        void setBases(int v) {
            bases = v;
            version++;
        }

        void setFee(int which, int v) {
            fees[which] = v;
            version++;
        }

        void setMark(int f, int g, int m) {
            marks[f * FLIGHTS + g] = m;
            version++;
        }

        int markCount() {
            int found = 0;
            for (int i = 0; i < TWOS; i++) {
                if (marks[i] != FREE) {
                    found++;
                }
            }
            return found;
        }

        int sitAt(int airport) {
            return Rules.sit(kinds[airport], figures[airport]);
        }

        int restAt(int airport) {
            return Rules.rest(kinds[airport], figures[airport]);
        }

        int legsOf(int airport) {
            return Rules.legs(kinds[airport]);
        }

        int spanOf(int airport) {
            return Rules.span(kinds[airport], figures[airport]);
        }

        int dutiesOf(int airport) {
            return Rules.duties(kinds[airport]);
        }

        void takeFrom(Plan other) {
            System.arraycopy(other.from, 0, from, 0, FLIGHTS);
            System.arraycopy(other.to, 0, to, 0, FLIGHTS);
            System.arraycopy(other.dep, 0, dep, 0, FLIGHTS);
            System.arraycopy(other.arr, 0, arr, 0, FLIGHTS);
            System.arraycopy(other.kinds, 0, kinds, 0, AIRPORTS);
            System.arraycopy(other.figures, 0, figures, 0, AIRPORTS);
            System.arraycopy(other.fees, 0, fees, 0, FEES);
            System.arraycopy(other.marks, 0, marks, 0, TWOS);
            size = other.size;
            bases = other.bases;
            version++;
        }
    }

    /** Who follows whom, and what each set of flights would cost as a pairing, marks aside. */
    private static final class Network {
        private final Plan plan;
        final int[] order = new int[FLIGHTS];
        final int[] how = new int[TWOS];
        final int[] slack = new int[TWOS];
        final int[] between = new int[TWOS];
        final int[] cost = new int[SETS];
        final int[] duties = new int[SETS];
        final int[] tights = new int[SETS];
        final int[] home = new int[SETS];

        Network(Plan plan) {
            this.plan = plan;
        }

        void workOut() {
            sortByDep();
            for (int f = 0; f < plan.size; f++) {
                for (int g = 0; g < plan.size; g++) {
                    join(f, g);
                }
            }
            findBetween();
            for (int set = 1; set <= plan.allFlights(); set++) {
                weigh(set);
            }
        }

        private void sortByDep() {
            for (int f = 0; f < plan.size; f++) {
                int place = f;
                while (place > 0 && plan.dep[order[place - 1]] > plan.dep[f]) {
                    order[place] = order[place - 1];
                    place--;
                }
                order[place] = f;
            }
        }

        private void join(int f, int g) {
            int two = f * FLIGHTS + g;
            how[two] = 0;
            slack[two] = 0;
            int airport = plan.to[f];
            if (plan.from[g] != airport) {
                return;
            }
            int gap = plan.dep[g] - plan.arr[f];
            int sit = plan.sitAt(airport);
            int rest = plan.restAt(airport);
            if (gap >= rest) {
                how[two] = REST;
                slack[two] = gap - rest;
            } else if (gap >= sit) {
                how[two] = SIT;
                slack[two] = gap - sit;
            }
        }

        /** The flights in order between two; NONE where the second isn't behind the first. */
        private void findBetween() {
            Arrays.fill(between, NONE);
            for (int i = 0; i < plan.size; i++) {
                int seen = 0;
                for (int j = i + 1; j < plan.size; j++) {
                    between[order[i] * FLIGHTS + order[j]] = seen;
                    seen |= 1 << order[j];
                }
            }
        }

        boolean isTight(int f, int g) {
            int two = f * FLIGHTS + g;
            return how[two] == SIT && slack[two] < plan.fees[BUFFER];
        }

        /** Whether g is right behind f in a set. */
        boolean isRightBehind(int set, int f, int g) {
            int among = between[f * FLIGHTS + g];
            int both = 1 << f | 1 << g;
            return among != NONE && (set & both) == both && (set & among) == 0;
        }

        private void weigh(int set) {
            cost[set] = NONE;
            int first = NONE;
            int last = NONE;
            int start = 0;
            int legs = 0;
            int dutyCount = 1;
            int tightCount = 0;
            for (int i = 0; i < plan.size; i++) {
                int g = order[i];
                if ((set >> g & 1) == 0) {
                    continue;
                }
                int step = last == NONE ? 0 : how[last * FLIGHTS + g];
                if (last == NONE) {
                    first = g;
                    start = plan.dep[g];
                } else if (step == 0) {
                    return;
                } else if (step == REST) {
                    dutyCount++;
                    legs = 0;
                    start = plan.dep[g];
                } else if (isTight(last, g)) {
                    tightCount++;
                }
                legs++;
                if (!isLawful(plan.from[first], dutyCount, legs, plan.arr[g] - start)) {
                    return;
                }
                last = g;
            }
            if (last != NONE && plan.to[last] == plan.from[first]) {
                duties[set] = dutyCount;
                tights[set] = tightCount;
                home[set] = plan.from[first];
                cost[set] = dutyCount * plan.fees[DUTY] + tightCount * plan.fees[TIGHT]
                        + plan.fees[AWAY] * (plan.arr[last] - plan.dep[first]);
            }
        }

        boolean isLawful(int airport, int dutyCount, int legs, int span) {
            return plan.isBase(airport) && dutyCount <= plan.dutiesOf(airport)
                    && legs <= plan.legsOf(airport) && span <= plan.spanOf(airport);
        }

        int followers(int f, int step) {
            int found = 0;
            for (int g = 0; g < plan.size; g++) {
                if (how[f * FLIGHTS + g] == step) {
                    found |= 1 << g;
                }
            }
            return found;
        }

        int tightFollowers(int f) {
            int found = 0;
            for (int g = 0; g < plan.size; g++) {
                if (isTight(f, g)) {
                    found |= 1 << g;
                }
            }
            return found;
        }

        int followCount() {
            int found = 0;
            for (int f = 0; f < plan.size; f++) {
                found += Integer.bitCount(followers(f, SIT) | followers(f, REST));
            }
            return found;
        }
    }

    /** Pairings by marks, the sets that are had by them, and the best cover. */
    private static final class Covers {
        private final Plan plan;
        private final Network network;
        final boolean[] open = new boolean[SETS];
        final int[] cost = new int[SETS];
        final int[] by = new int[SETS];
        final int[] choice = new int[SETS];
        private final int[] total = new int[SETS];

        Covers(Plan plan, Network network) {
            this.plan = plan;
            this.network = network;
        }

        void workOut(int[] marks) {
            Arrays.fill(cost, NONE);
            Arrays.fill(by, NONE);
            for (int set = 1; set <= plan.allFlights(); set++) {
                open[set] = network.cost[set] != NONE && suits(set, marks);
                if (open[set]) {
                    offer(set);
                }
            }
            total[0] = 0;
            choice[0] = 0;
            for (int set = 1; set <= plan.allFlights(); set++) {
                choose(set);
            }
        }

        private boolean suits(int set, int[] marks) {
            for (int f = 0; f < plan.size; f++) {
                for (int g = 0; g < plan.size; g++) {
                    int m = marks[f * FLIGHTS + g];
                    if (m == FREE) {
                        continue;
                    }
                    boolean behind = network.isRightBehind(set, f, g);
                    boolean touched = (set & (1 << f | 1 << g)) != 0;
                    if (m == MUST ? touched && !behind : behind) {
                        return false;
                    }
                }
            }
            return true;
        }

        /** Pairings are offered by bits upwards, so that of like ones the least stays. */
        private void offer(int pairing) {
            int head = plan.fees[HEAD];
            for (int set = pairing; set > 0; set = (set - 1) & pairing) {
                int asked = network.cost[pairing] + head * Integer.bitCount(pairing & ~set);
                if (cost[set] == NONE || asked < cost[set]) {
                    cost[set] = asked;
                    by[set] = pairing;
                }
            }
        }

        /** The best cover of these flights alone: its total, its set with the least flight. */
        private void choose(int flights) {
            total[flights] = NONE;
            choice[flights] = 0;
            int least = flights & -flights;
            int others = flights & ~least;
            // sets come downwards: of like ones the last, which is the least, stays
            for (int more = others; more >= 0; more = more == 0 ? NONE : (more - 1) & others) {
                int set = least | more;
                int rest = total[others & ~more];
                if (cost[set] == NONE || rest == NONE) {
                    continue;
                }
                int asked = cost[set] + rest;
                if (total[flights] == NONE || asked <= total[flights]) {
                    total[flights] = asked;
                    choice[flights] = set;
                }
            }
        }

        boolean hasCover() {
            return leastTotal() != NONE;
        }

        int leastTotal() {
            return total[plan.allFlights()];
        }

        int bestSets() {
            int found = 0;
            int rest = plan.allFlights();
            for (int i = 0; i < FLIGHTS && choice[rest] != 0; i++) {
                found++;
                rest &= ~choice[rest];
            }
            return found;
        }

        int bestAlong() {
            int found = 0;
            int rest = plan.allFlights();
            for (int i = 0; i < FLIGHTS && choice[rest] != 0; i++) {
                found += alongWith(choice[rest]);
                rest &= ~choice[rest];
            }
            return found;
        }

        int bestSetWith(int flight) {
            int rest = plan.allFlights();
            for (int i = 0; i < FLIGHTS && choice[rest] != 0; i++) {
                int set = choice[rest];
                if ((set >> flight & 1) != 0) {
                    return set;
                }
                rest &= ~set;
            }
            return NONE;
        }

        boolean isHad(long set) {
            return set > 0 && set <= plan.allFlights() && cost[(int) set] != NONE;
        }

        int costOf(long set) {
            return isHad(set) ? cost[(int) set] : 0;
        }

        int alongWith(long set) {
            return isHad(set) ? Integer.bitCount(by[(int) set] & ~(int) set) : 0;
        }

        int pairingCount() {
            int found = 0;
            for (int set = 1; set <= plan.allFlights(); set++) {
                if (open[set]) {
                    found++;
                }
            }
            return found;
        }

        int pairingAt(int k) {
            int left = k;
            for (int set = 1; set <= plan.allFlights() && left >= 0; set++) {
                if (open[set]) {
                    if (left == 0) {
                        return set;
                    }
                    left--;
                }
            }
            return NONE;
        }

        int hadCount() {
            int found = 0;
            for (int set = 1; set <= plan.allFlights(); set++) {
                if (cost[set] != NONE) {
                    found++;
                }
            }
            return found;
        }

        int firstUnfair(long[] prices, int n) {
            for (int set = 1; set <= plan.allFlights(); set++) {
                long sum = 0;
                for (int f = 0; f < plan.size; f++) {
                    sum += (set >> f & 1) * prices[f];
                }
                if (cost[set] != NONE && sum > (long) n * cost[set]) {
                    return set;
                }
            }
            return NONE;
        }

        /** The first two without a mark that stand right behind one another in a pairing. */
        int firstFree(int[] marks) {
            for (int f = 0; f < plan.size; f++) {
                for (int g = 0; g < plan.size; g++) {
                    if (marks[f * FLIGHTS + g] == FREE && standSomewhere(f, g)) {
                        return f * FLIGHTS + g;
                    }
                }
            }
            return NONE;
        }

        private boolean standSomewhere(int f, int g) {
            if (network.how[f * FLIGHTS + g] == 0) {
                return false;
            }
            for (int set = 1; set <= plan.allFlights(); set++) {
                if (open[set] && network.isRightBehind(set, f, g)) {
                    return true;
                }
            }
            return false;
        }
    }

    /**
     * The greatest fair prices, by pivots. All cells are whole numbers over one divisor, so that
     * nothing is rounded; they are minors of a small 0-1 table, far below what a long holds.
     * Fair prices of the pairings alone are fair for all sets: no price is below 0.
     */
    private static final class Simplex {
        private static final int WIDE = FLIGHTS + 1, PIVOTS = 1000000;
        private final Plan plan;
        private final long[] cells = new long[(FLIGHTS + 1 + SETS) * WIDE];
        private final int[] rowNames = new int[FLIGHTS + 1 + SETS];
        private final int[] columnNames = new int[FLIGHTS];
        private long divisor = 1;
        private int goals = 0;
        private int rows = 0;

        Simplex(Plan plan) {
            this.plan = plan;
        }

        /** The goals in order: all prices together, then (if asked) flight 0's, flight 1's ... */
        boolean solve(Covers covers, int goalCount) {
            for (int f = 0; f < plan.size; f++) {
                if (covers.cost[1 << f] == NONE) {
                    return false;
                }
            }
            layGoals(goalCount);
            layPairings(covers);
            for (int i = 0; i < PIVOTS; i++) {
                int column = entering();
                if (column == NONE) {
                    return true;
                }
                int row = leaving(column);
                if (row == NONE) {
                    return false;
                }
                pivot(row, column);
            }
            return false;
        }

        private void layGoals(int goalCount) {
            divisor = 1;
            goals = goalCount;
            rows = goalCount;
            for (int column = 0; column < plan.size; column++) {
                columnNames[column] = column;
                cells[column] = -1;
                for (int goal = 1; goal < goals; goal++) {
                    cells[goal * WIDE + column] = goal - 1 == column ? -1 : 0;
                }
            }
            for (int goal = 0; goal < goals; goal++) {
                cells[goal * WIDE + FLIGHTS] = 0;
            }
        }

        private void layPairings(Covers covers) {
            for (int set = 1; set <= plan.allFlights(); set++) {
                if (!covers.open[set]) {
                    continue;
                }
                for (int f = 0; f < plan.size; f++) {
                    cells[rows * WIDE + f] = set >> f & 1;
                }
                cells[rows * WIDE + FLIGHTS] = covers.cost[set];
                rowNames[rows] = FLIGHTS + set;
                rows++;
            }
        }

        /** The improving column of the least name: so the pivots never go round in a ring. */
        private int entering() {
            int found = NONE;
            for (int column = 0; column < plan.size; column++) {
                boolean earlier = found == NONE || columnNames[column] < columnNames[found];
                if (earlier && improves(column)) {
                    found = column;
                }
            }
            return found;
        }

        private boolean improves(int column) {
            for (int goal = 0; goal < goals; goal++) {
                long cell = cells[goal * WIDE + column];
                if (cell != 0) {
                    return cell < 0;
                }
            }
            return false;
        }

        private int leaving(int column) {
            int found = NONE;
            for (int row = goals; row < rows; row++) {
                if (cells[row * WIDE + column] > 0
                        && (found == NONE || isTighter(row, found, column))) {
                    found = row;
                }
            }
            return found;
        }

        private boolean isTighter(int row, int other, int column) {
            long mine = cells[row * WIDE + FLIGHTS] * cells[other * WIDE + column];
            long others = cells[other * WIDE + FLIGHTS] * cells[row * WIDE + column];
            return mine < others || (mine == others && rowNames[row] < rowNames[other]);
        }

        private void pivot(int row, int column) {
            for (int r = 0; r < rows; r++) {
                if (r != row) {
                    sweep(r, row, column);
                }
            }
            long next = cells[row * WIDE + column];
            cells[row * WIDE + column] = divisor;
            divisor = next;
            int name = rowNames[row];
            rowNames[row] = columnNames[column];
            columnNames[column] = name;
        }

        private void sweep(int r, int row, int column) {
            if (divisor <= 0) {
                return;
            }
            long pivot = cells[row * WIDE + column];
            long factor = cells[r * WIDE + column];
            for (int c = 0; c < WIDE; c++) {
                if (c != column && (c < plan.size || c == FLIGHTS)) {
                    long mine = cells[r * WIDE + c] * pivot;
                    cells[r * WIDE + c] = (mine - factor * cells[row * WIDE + c]) / divisor;
                }
            }
            cells[r * WIDE + column] = -factor;
        }

        long lowest(int goal, int part) {
            return inLowest(cells[goal * WIDE + FLIGHTS], divisor, part);
        }

        boolean boundIs(long sum, long n) {
            return sum * divisor == cells[FLIGHTS] * n;
        }
    }

    /** What would be, were other twos marked. */
    private static final class Branches {
        private static final int MOST_NODES = 40;
        private final Plan plan;
        private final Covers trial;
        private final Simplex simplex;
        private final int[] marks = new int[TWOS];
        int nodes = 0;
        int lost = 0;

        Branches(Plan plan, Covers trial, Simplex simplex) {
            this.plan = plan;
            this.trial = trial;
            this.simplex = simplex;
        }

        boolean hasBoundWith(int f, int g, int m) {
            System.arraycopy(plan.marks, 0, marks, 0, TWOS);
            marks[f * FLIGHTS + g] = m;
            trial.workOut(marks);
            return simplex.solve(trial, 1);
        }

        void grow() {
            System.arraycopy(plan.marks, 0, marks, 0, TWOS);
            nodes = 0;
            lost = 0;
            visit(0);
        }

        boolean isDear() {
            return nodes > MOST_NODES;
        }

        private void visit(int depth) {
            nodes++;
            if (isDear() || depth > MOST_NODES) {
                return;
            }
            trial.workOut(marks);
            if (!trial.hasCover()) {
                lost++;
                return;
            }
            if (simplex.solve(trial, 1) && simplex.boundIs(trial.leastTotal(), 1)) {
                return;
            }
            int two = trial.firstFree(marks);
            if (two == NONE) {
                return;
            }
            marks[two] = MUST;
            visit(depth + 1);
            marks[two] = NOT;
            visit(depth + 1);
            marks[two] = FREE;
        }
    }

    /**
     * Ways from bases, by labels. Each label is a way of its own, and a way is told by its set of
     * flights: so there are fewer labels than sets.
     */
    private static final class Labels {
        private final Plan plan;
        private final Network network;
        private final int[] flights = new int[SETS];
        private final int[] homes = new int[SETS];
        private final int[] duties = new int[SETS];
        private final int[] legs = new int[SETS];
        private final int[] starts = new int[SETS];
        private final long[] costs = new long[SETS];
        private final boolean[] outdone = new boolean[SETS];
        private int size = 0;
        int dropped = 0;

        Labels(Plan plan, Network network) {
            this.plan = plan;
            this.network = network;
        }

        void workOut(long[] prices) {
            size = 0;
            dropped = 0;
            for (int i = 0; i < plan.size; i++) {
                int f = network.order[i];
                begin(f, prices[f]);
                // all that reach f come from earlier flights, so f's labels are settled here
                int settled = size;
                for (int at = 0; at < settled; at++) {
                    if (flights[at] == f && !outdone[at]) {
                        goOn(at, prices);
                    }
                }
            }
        }

        private void begin(int f, long price) {
            long cost = plan.fees[DUTY] + (long) plan.fees[AWAY] * (plan.arr[f] - plan.dep[f]);
            arrive(f, plan.from[f], cost - price, 1, 1, plan.dep[f]);
        }

        private void goOn(int at, long[] prices) {
            int f = flights[at];
            for (int g = 0; g < plan.size; g++) {
                int step = network.how[f * FLIGHTS + g];
                if (step == 0) {
                    continue;
                }
                long cost = costs[at] - prices[g]
                        + (long) plan.fees[AWAY] * (plan.arr[g] - plan.arr[f]);
                if (step == REST) {
                    cost += plan.fees[DUTY];
                    arrive(g, homes[at], cost, duties[at] + 1, 1, plan.dep[g]);
                } else {
                    cost += network.isTight(f, g) ? plan.fees[TIGHT] : 0;
                    arrive(g, homes[at], cost, duties[at], legs[at] + 1, starts[at]);
                }
            }
        }

        private void arrive(int f, int home, long cost, int duty, int leg, int start) {
            if (size >= SETS || !network.isLawful(home, duty, leg, plan.arr[f] - start)) {
                return;
            }
            flights[size] = f;
            homes[size] = home;
            costs[size] = cost;
            duties[size] = duty;
            legs[size] = leg;
            starts[size] = start;
            outdone[size] = false;
            size++;
            compareLatest();
        }

        private void compareLatest() {
            int latest = size - 1;
            for (int at = 0; at < latest; at++) {
                if (outdone[at]) {
                    continue;
                }
                if (outdoes(at, latest)) {
                    outdone[latest] = true;
                    dropped++;
                    return;
                }
                if (outdoes(latest, at)) {
                    outdone[at] = true;
                    dropped++;
                }
            }
        }

        private boolean outdoes(int a, int b) {
            return flights[a] == flights[b] && homes[a] == homes[b] && costs[a] <= costs[b]
                    && duties[a] <= duties[b] && legs[a] <= legs[b] && starts[a] >= starts[b];
        }

        int keptCount() {
            return size - dropped;
        }

        long leastHome() {
            long least = NO;
            for (int at = 0; at < size; at++) {
                boolean home = plan.to[flights[at]] == homes[at];
                if (home && (least == NO || costs[at] < least)) {
                    least = costs[at];
                }
            }
            return least;
        }
    }

    /** Who is late by whom in the best cover. */
    private static final class Delays {
        private final Plan plan;
        private final Network network;
        private final int[] ahead = new int[FLIGHTS];
        private final int[] own = new int[FLIGHTS];
        private final int[] lates = new int[FLIGHTS];

        Delays(Plan plan, Network network) {
            this.plan = plan;
            this.network = network;
        }

        void learn(Covers covers) {
            Arrays.fill(ahead, 0);
            int rest = plan.allFlights();
            for (int i = 0; i < FLIGHTS && covers.choice[rest] != 0; i++) {
                int set = covers.choice[rest];
                learnPairing(covers.by[set]);
                rest &= ~set;
            }
        }

        private void learnPairing(int pairing) {
            int last = NONE;
            for (int i = 0; i < plan.size; i++) {
                int g = network.order[i];
                if ((pairing >> g & 1) == 0) {
                    continue;
                }
                if (last != NONE) {
                    ahead[g] |= 1 << last;
                }
                last = g;
            }
        }

        int byOne(int flight, int d) {
            Arrays.fill(own, 0);
            own[flight] = d;
            return spread();
        }

        int bySeed(int seed, int n) {
            int z = seed;
            for (int f = 0; f < plan.size; f++) {
                z = z * 1103515245 + 12345;
                own[f] = n > 0 ? (z >>> 9) % n : 0;
            }
            return spread();
        }

        private int spread() {
            int together = 0;
            for (int i = 0; i < plan.size; i++) {
                int g = network.order[i];
                lates[g] = own[g];
                for (int f = 0; f < plan.size; f++) {
                    if ((ahead[g] >> f & 1) != 0) {
                        lates[g] = Math.max(lates[g], lates[f] - network.slack[f * FLIGHTS + g]);
                    }
                }
                together += lates[g];
            }
            return together;
        }

        int lateFlights() {
            int found = 0;
            for (int f = 0; f < plan.size; f++) {
                if (lates[f] > 0) {
                    found |= 1 << f;
                }
            }
            return found;
        }
    }

    /** The tape, and the tokens that were read from it: words by their codes, and numbers. */
    private static final class Tape {
        static final int LONGEST = 60;
        static final int FLY_WORD = 0, KIND_WORD = 1, BASE_WORD = 2, FEE_WORD = 3;
        static final int MUST_WORD = 4, NOT_WORD = 5, FREE_WORD = 6;
        private static final int WORDS = 7, DIGITS = 3, WORD_DUE = -1, END_DUE = 0;
        private final int[] bytes = new int[LONGEST];
        private final int[] read = new int[LONGEST];
        int size = 0;
        int tokens = 0;
        private int due = WORD_DUE;

        boolean hasRoom(int n) {
            return size + n <= LONGEST;
        }

        void add(int b) {
            if (size < LONGEST) {
                bytes[size] = b;
                size++;
            }
        }

        int token(int i) {
            return i >= 0 && i < tokens ? read[i] : 0;
        }

        /** The place of the fault, or NONE. */
        int parse() {
            tokens = 0;
            due = WORD_DUE;
            int at = 0;
            while (at < size) {
                if (isBlank(bytes[at])) {
                    at++;
                    continue;
                }
                int end = endOf(at);
                if (!takes(at, end)) {
                    return at;
                }
                at = end;
            }
            return due == END_DUE ? NONE : size;
        }

        /** Where the token ends that begins here; a byte that begins none stands alone. */
        private int endOf(int at) {
            int end = at + 1;
            while (end < size && isLetter(bytes[at]) && isLetter(bytes[end])) {
                end++;
            }
            while (end < size && isDigit(bytes[at]) && isDigit(bytes[end])) {
                end++;
            }
            return end;
        }

        private boolean takes(int at, int end) {
            if (isLetter(bytes[at])) {
                return due == WORD_DUE && takesWord(at, end);
            }
            if (isDigit(bytes[at])) {
                return due > END_DUE && takesNumber(at, end);
            }
            if (bytes[at] == ';' && due == END_DUE) {
                due = WORD_DUE;
                return true;
            }
            return false;
        }

        private boolean takesWord(int at, int end) {
            for (int code = 0; code < WORDS; code++) {
                if (isWord(wordOf(code), at, end)) {
                    due = numbersOf(code);
                    keep(code);
                    return true;
                }
            }
            return false;
        }

        private boolean takesNumber(int at, int end) {
            if (end - at > DIGITS) {
                return false;
            }
            int v = 0;
            for (int i = at; i < end; i++) {
                v = 10 * v + bytes[i] - '0';
            }
            due--;
            keep(v);
            return true;
        }

        private void keep(int v) {
            if (tokens < LONGEST) {
                read[tokens] = v;
                tokens++;
            }
        }

        private boolean isWord(String word, int at, int end) {
            if (word.length() != end - at) {
                return false;
            }
            for (int i = 0; i < word.length(); i++) {
                if (word.charAt(i) != bytes[at + i]) {
                    return false;
                }
            }
            return true;
        }

        private static String wordOf(int code) {
            switch (code) {
                case FLY_WORD: return "fly";
                case KIND_WORD: return "kind";
                case BASE_WORD: return "base";
                case FEE_WORD: return "fee";
                case MUST_WORD: return "must";
                case NOT_WORD: return "not";
                default: return "free";
            }
        }

        static int numbersOf(int code) {
            switch (code) {
                case FLY_WORD: return 4;
                case KIND_WORD: return 3;
                case BASE_WORD: return 1;
                default: return 2;
            }
        }

        private static boolean isBlank(int b) {
            return b == 32 || b == 10;
        }

        private static boolean isLetter(int b) {
            return b >= 'a' && b <= 'z';
        }

        private static boolean isDigit(int b) {
            return b >= '0' && b <= '9';
        }
    }

    /** Sheets: rows of longs; one of ints holds what an int holds. */
    private static final class Sheets {
        static final int LONGEST = 40;
        private static final int SHEETS = 4;
        final int[] sorts = {NONE, NONE, NONE, NONE};
        final int[] sizes = new int[SHEETS];
        private final long[] items = new long[SHEETS * LONGEST];

        boolean isSheet(int sheet) {
            return sheet >= 0 && sheet < SHEETS;
        }

        boolean isMissing(int sheet) {
            return sorts[sheet] == NONE;
        }

        /** Whether n items from i on are there; told without a sum that could run over. */
        boolean hasItems(int sheet, int i, int n) {
            return i >= 0 && n <= sizes[sheet] && i <= sizes[sheet] - n;
        }

        void become(int sheet, int sort, int size) {
            sorts[sheet] = sort;
            sizes[sheet] = size;
            for (int i = 0; i < LONGEST; i++) {
                items[sheet * LONGEST + i] = 0;
            }
        }

        long read(int sheet, int i) {
            return hasItems(sheet, i, 1) ? items[sheet * LONGEST + i] : 0;
        }

        void write(int sheet, int i, long v) {
            if (hasItems(sheet, i, 1)) {
                items[sheet * LONGEST + i] = sorts[sheet] == INTS ? (int) v : v;
            }
        }

        void move(int sheet, int i, int other, int j, int n) {
            System.arraycopy(items, sheet * LONGEST + i, items, other * LONGEST + j, n);
        }
    }
}
