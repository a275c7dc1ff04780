import java.math.BigInteger;
import java.util.ArrayList;
import java.util.Arrays;
import java.util.List;
import java.util.regex.Matcher;
import java.util.regex.Pattern;

/**
 * The document, read word by word and slowly: nothing is kept that can be worked out anew, and
 * each thing is worked out by another way than in the class under test.
 */
final class Reference {
    static final int NONE = -1, BAD = -2, STATE = -3, FULL = -4, DEAR = -5;
    static final long NO = Long.MIN_VALUE;

    private record Flight(int from, int to, int dep, int arr) { }

    private record Label(int base, long cost, int duties, int legs, int begun) {
        boolean outdoes(Label o) {
            return base == o.base && cost <= o.cost && duties <= o.duties && legs <= o.legs && begun >= o.begun;
        }
    }

    private static final class Plan {
        List<Flight> flights = new ArrayList<>();
        int[] kinds = new int[4];
        int[] figures = new int[4];
        int[] fees = {10, 1, 5, 20, 2};
        int bases = 1;
        int[][] marks = new int[7][7];

        Plan twin() {
            Plan p = new Plan();
            p.flights = new ArrayList<>(flights);
            p.kinds = kinds.clone();
            p.figures = figures.clone();
            p.fees = fees.clone();
            p.bases = bases;
            for (int f = 0; f < 7; f++) {
                p.marks[f] = marks[f].clone();
            }
            return p;
        }
    }

    private Plan p = new Plan();
    private Plan image = null;
    private StringBuilder tape = new StringBuilder();
    private final Object[] sheets = new Object[4];

    // ---- flights, airports

    private int n() {
        return p.flights.size();
    }

    private boolean is(int f) {
        return 0 <= f && f < n();
    }

    private static boolean in(long v, long low, long high) {
        return low <= v && v <= high;
    }

    int fly(int from, int to, int dep, int arr) {
        if (!in(from, 0, 3) || !in(to, 0, 3) || from == to) return BAD;
        if (!in(dep, 0, 299) || !in(arr, 0, 299) || dep >= arr) return BAD;
        if (n() == 7) return FULL;
        p.flights.add(new Flight(from, to, dep, arr));
        return n() - 1;
    }

    int drop() {
        if (n() == 0) return STATE;
        int f = n() - 1;
        p.flights.remove(f);
        for (int g = 0; g < 7; g++) {
            p.marks[f][g] = 0;
            p.marks[g][f] = 0;
        }
        return n();
    }

    int of(int flight, int what) {
        if (!is(flight) || !in(what, 0, 6)) return BAD;
        Flight f = p.flights.get(flight);
        if (what == 0) return f.from;
        if (what == 1) return f.to;
        if (what == 2) return f.dep;
        if (what == 3) return f.arr;
        int bits = 0;
        for (int g = 0; g < n(); g++) {
            boolean has = what == 4 ? how(flight, g) == 1 : what == 5 ? how(flight, g) == 2 : tight(flight, g);
            if (has) bits += 1 << g;
        }
        return bits;
    }

    int shift(int flight, int dep, int arr) {
        if (!is(flight) || !in(dep, 0, 299) || !in(arr, 0, 299) || dep >= arr) return BAD;
        Flight f = p.flights.get(flight);
        p.flights.set(flight, new Flight(f.from, f.to, dep, arr));
        return f.dep;
    }

    int kind(int airport, int kind, int figure) {
        if (!in(airport, 0, 3) || !in(kind, 0, 5) || !in(figure, 0, 9)) return BAD;
        int was = p.kinds[airport] * 10 + p.figures[airport];
        p.kinds[airport] = kind;
        p.figures[airport] = figure;
        return was;
    }

    private int sit(int k, int fig) {
        return switch (k) {
            case 0 -> 3;
            case 1 -> sit(0, fig) + fig % 3;
            case 2 -> sit(0, fig) - 1;
            case 3 -> sit(1, fig);
            case 4 -> sit(2, fig) / 2;
            default -> 4 + fig;
        };
    }

    private int rest(int k, int fig) {
        return switch (k) {
            case 0 -> 20;
            case 1 -> rest(0, fig) + fig;
            case 2 -> rest(0, fig);
            case 3 -> rest(1, fig) - 5;
            case 4 -> rest(0, fig) - fig;
            default -> rest(0, fig);
        };
    }

    private int legs(int k) {
        return switch (k) {
            case 0 -> 3;
            case 1 -> legs(0);
            case 2 -> legs(0) + 1;
            case 3 -> legs(0) - 1;
            case 4 -> legs(2);
            default -> 2;
        };
    }

    private int span(int k, int fig) {
        return switch (k) {
            case 0 -> 40;
            case 1 -> span(0, fig) - fig;
            case 2 -> span(0, fig) + fig;
            case 3 -> span(1, fig);
            case 4 -> span(2, fig) + 10;
            default -> span(0, fig);
        };
    }

    private int duties(int k) {
        return switch (k) {
            case 4 -> duties(0) - 1;
            case 5 -> 2;
            default -> 3;
        };
    }

    int told(int airport, int what) {
        if (!in(airport, 0, 3) || !in(what, 0, 6)) return BAD;
        int k = p.kinds[airport];
        int fig = p.figures[airport];
        return switch (what) {
            case 0 -> k;
            case 1 -> fig;
            case 2 -> sit(k, fig);
            case 3 -> rest(k, fig);
            case 4 -> legs(k);
            case 5 -> span(k, fig);
            default -> duties(k);
        };
    }

    int taken(int airport, int k) {
        if (!in(airport, 0, 3) || !in(k, 0, 5)) return BAD;
        int own = p.kinds[airport];
        boolean under = own == k || k == 0 || (k == 1 && own == 3) || (k == 2 && own == 4);
        return under ? told(airport, 5) : -13;
    }

    int base(int bases) {
        if (!in(bases, 0, 15)) return BAD;
        int was = p.bases;
        p.bases = bases;
        return was;
    }

    int fee(int which, int v) {
        int[] most = {99, 9, 99, 99, 20};
        if (!in(which, 0, 4) || !in(v, 0, most[which])) return BAD;
        int was = p.fees[which];
        p.fees[which] = v;
        return was;
    }

    int mark(int f, int g, int m) {
        if (!is(f) || !is(g) || f == g || !in(m, 0, 2)) return BAD;
        int was = p.marks[f][g];
        p.marks[f][g] = m;
        return was;
    }

    // ---- pairings

    private int gap(int f, int g) {
        return p.flights.get(g).dep - p.flights.get(f).arr;
    }

    private int how(int f, int g) {
        int there = p.flights.get(f).to;
        if (p.flights.get(g).from != there) return 0;
        if (gap(f, g) >= told(there, 3)) return 2;
        return gap(f, g) >= told(there, 2) ? 1 : 0;
    }

    private int slack(int f, int g) {
        return gap(f, g) - told(p.flights.get(f).to, how(f, g) == 2 ? 3 : 2);
    }

    private boolean tight(int f, int g) {
        return how(f, g) == 1 && slack(f, g) < p.fees[4];
    }

    int follows(int f, int g) {
        return !is(f) || !is(g) || f == g ? BAD : how(f, g);
    }

    private List<Integer> inOrder(int set) {
        List<Integer> list = new ArrayList<>();
        for (int f = 0; f < n(); f++) {
            if ((set & 1 << f) != 0) list.add(f);
        }
        list.sort((a, b) -> p.flights.get(a).dep != p.flights.get(b).dep
                ? p.flights.get(a).dep - p.flights.get(b).dep : a - b);
        return list;
    }

    /** COST, DUTIES, TIGHT ones, BASE; null: it is no PAIRING by those marks. */
    private int[] pairingBy(int set, int[][] marks) {
        List<Integer> row = inOrder(set);
        int base = p.flights.get(row.get(0)).from;
        if ((p.bases & 1 << base) == 0 || p.flights.get(row.get(row.size() - 1)).to != base) return null;
        List<List<Integer>> parts = new ArrayList<>();
        parts.add(new ArrayList<>(List.of(row.get(0))));
        int tights = 0;
        for (int i = 1; i < row.size(); i++) {
            int by = how(row.get(i - 1), row.get(i));
            if (by == 0) return null;
            if (by == 2) parts.add(new ArrayList<>());
            parts.get(parts.size() - 1).add(row.get(i));
            if (tight(row.get(i - 1), row.get(i))) tights++;
        }
        if (parts.size() > told(base, 6)) return null;
        for (List<Integer> duty : parts) {
            if (duty.size() > told(base, 4)) return null;
            int length = p.flights.get(duty.get(duty.size() - 1)).arr - p.flights.get(duty.get(0)).dep;
            if (length > told(base, 5)) return null;
        }
        for (int f = 0; f < n(); f++) {
            for (int g = 0; g < n(); g++) {
                int at = row.indexOf(f);
                boolean behind = f != g && at >= 0 && at + 1 < row.size() && row.get(at + 1) == g;
                if (marks[f][g] == 1 && (row.contains(f) || row.contains(g)) && !behind) return null;
                if (marks[f][g] == 2 && behind) return null;
            }
        }
        int away = p.flights.get(row.get(row.size() - 1)).arr - p.flights.get(row.get(0)).dep;
        int cost = parts.size() * p.fees[0] + away * p.fees[1] + tights * p.fees[2];
        return new int[] {cost, parts.size(), tights, base};
    }

    int pairing(int set, int what) {
        if (set <= 0 || set >= 1 << n() || !in(what, 0, 3)) return BAD;
        int[] all = pairingBy(set, p.marks);
        return all == null ? NONE : all[what];
    }

    /** For each set its pairing's cost by those marks, or NONE. */
    private int[] pairingCosts(int[][] marks) {
        int[] costs = new int[1 << n()];
        Arrays.fill(costs, NONE);
        for (int set = 1; set < costs.length; set++) {
            int[] all = pairingBy(set, marks);
            if (all != null) costs[set] = all[0];
        }
        return costs;
    }

    int pairings(int k) {
        List<Integer> all = new ArrayList<>();
        int[] costs = pairingCosts(p.marks);
        for (int set = 1; set < costs.length; set++) {
            if (costs[set] != NONE) all.add(set);
        }
        if (k == NONE) return all.size();
        return in(k, 0, all.size() - 1) ? all.get(k) : -12;
    }

    /** Row 0: what each set costs, row 1: by which. */
    private int[][] hads(int[][] marks) {
        int[] costs = pairingCosts(marks);
        int[][] had = new int[2][costs.length];
        Arrays.fill(had[0], NONE);
        Arrays.fill(had[1], NONE);
        for (int set = 1; set < costs.length; set++) {
            for (int by = costs.length - 1; by > 0; by--) {
                if (costs[by] == NONE || (by & set) != set) continue;
                int cost = costs[by] + p.fees[3] * (Integer.bitCount(by) - Integer.bitCount(set));
                if (had[0][set] == NONE || cost <= had[0][set]) {
                    had[0][set] = cost;
                    had[1][set] = by;
                }
            }
        }
        return had;
    }

    int had(int set, int what) {
        if (set <= 0 || set >= 1 << n() || !in(what, 0, 1)) return BAD;
        return hads(p.marks)[what][set];
    }

    // ---- covers, prices

    private List<Integer> bestList;
    private int bestTotal;

    /** All covers, by trying; the first of least total stays, as sets come upwards. */
    private void tryCovers(int left, int total, List<Integer> sets, int[] costs) {
        if (left == 0) {
            if (bestList == null || total < bestTotal) {
                bestList = new ArrayList<>(sets);
                bestTotal = total;
            }
            return;
        }
        int least = Integer.lowestOneBit(left);
        for (int set = 1; set <= left; set++) {
            if ((set & least) == 0 || (set & ~left) != 0 || costs[set] == NONE) continue;
            sets.add(set);
            tryCovers(left - set, total + costs[set], sets, costs);
            sets.remove(sets.size() - 1);
        }
    }

    /** The sets of BEST, null: there is none; the total stands in bestTotal. */
    private List<Integer> bestBy(int[][] marks) {
        bestList = null;
        bestTotal = NONE;
        tryCovers((1 << n()) - 1, 0, new ArrayList<>(), hads(marks)[0]);
        return bestList;
    }

    int best(int what) {
        if (!in(what, 0, 2)) return BAD;
        List<Integer> best = bestBy(p.marks);
        if (best == null) return NONE;
        if (what == 0) return bestTotal;
        if (what == 1) return best.size();
        int along = 0;
        int[] by = hads(p.marks)[1];
        for (int set : best) {
            along += Integer.bitCount(by[set]) - Integer.bitCount(set);
        }
        return along;
    }

    int bestOf(int flight, int what) {
        if (!is(flight) || !in(what, 0, 1)) return BAD;
        List<Integer> best = bestBy(p.marks);
        if (best == null) return NONE;
        for (int set : best) {
            if ((set & 1 << flight) != 0) return what == 0 ? set : hads(p.marks)[1][set];
        }
        throw new IllegalStateException("a cover without a flight");
    }

    /**
     * Prices of the bound over all sets that are had. In order or not: that of an earlier flight
     * weighs more by so little that it never outweighs what all come to together.
     */
    private Fraction[] pricesBy(int[][] marks, boolean ordered) {
        int[] costs = hads(marks)[0];
        List<Fraction[]> rows = new ArrayList<>();
        for (int set = 1; set < costs.length; set++) {
            if (costs[set] == NONE) continue;
            Fraction[] row = new Fraction[n() + 1];
            for (int f = 0; f < n(); f++) {
                row[f] = Fraction.of((set >> f) & 1);
            }
            row[n()] = Fraction.of(costs[set]);
            rows.add(row);
        }
        for (int f = 0; f < n(); f++) {
            if (costs[1 << f] == NONE) return null;
        }
        Fraction[] goal = new Fraction[n()];
        for (int f = 0; f < n(); f++) {
            Fraction little = new Fraction(BigInteger.ONE, BigInteger.TEN.pow(12 * (f + 1)));
            goal[f] = ordered ? Fraction.of(1).plus(little) : Fraction.of(1);
        }
        return Linear.most(rows, goal);
    }

    private static Fraction sum(Fraction[] prices) {
        Fraction sum = Fraction.ZERO;
        for (Fraction f : prices) {
            sum = sum.plus(f);
        }
        return sum;
    }

    private static long half(Fraction f, int part) {
        return (part == 0 ? f.above : f.below).longValueExact();
    }

    long bound(int part) {
        if (!in(part, 0, 1)) return NO;
        Fraction[] prices = pricesBy(p.marks, false);
        return prices == null ? NO : half(sum(prices), part);
    }

    long price(int flight, int part) {
        if (!is(flight) || !in(part, 0, 1)) return NO;
        Fraction[] prices = pricesBy(p.marks, true);
        return prices == null ? NO : half(prices[flight], part);
    }

    long branch(int f, int g, int m, int part) {
        if (!is(f) || !is(g) || f == g || !in(m, 1, 2) || !in(part, 0, 1)) return NO;
        int[][] marks = p.twin().marks;
        marks[f][g] = m;
        Fraction[] prices = pricesBy(marks, false);
        return prices == null ? NO : half(sum(prices), part);
    }

    private int nodes;
    private int lost;

    private void node(int[][] marks) {
        nodes++;
        if (nodes > 40) return;
        if (bestBy(marks) == null) {
            lost++;
            return;
        }
        int total = bestTotal;
        if (sum(pricesBy(marks, false)).compareTo(Fraction.of(total)) == 0) return;
        int[] costs = pairingCosts(marks);
        for (int f = 0; f < n(); f++) {
            for (int g = 0; g < n(); g++) {
                if (f == g || marks[f][g] != 0 || !behindSomewhere(costs, f, g)) continue;
                for (int m = 1; m <= 2; m++) {
                    int[][] below = new int[7][];
                    for (int i = 0; i < 7; i++) {
                        below[i] = marks[i].clone();
                    }
                    below[f][g] = m;
                    node(below);
                }
                return;
            }
        }
    }

    private boolean behindSomewhere(int[] costs, int f, int g) {
        for (int set = 1; set < costs.length; set++) {
            if (costs[set] == NONE) continue;
            List<Integer> row = inOrder(set);
            int at = row.indexOf(f);
            if (at >= 0 && at + 1 < row.size() && row.get(at + 1) == g) return true;
        }
        return false;
    }

    int tree(int what) {
        if (!in(what, 0, 1)) return BAD;
        nodes = 0;
        lost = 0;
        node(p.marks);
        return nodes > 40 ? DEAR : what == 0 ? nodes : lost;
    }

    int proves(int sheet, int n, int what) {
        if (!in(sheet, 0, 3) || !in(n, 1, 99) || !in(what, 0, 1)) return BAD;
        if (sheets[sheet] == null) return -11;
        long[] told = rowOf(sheet);
        if (told.length != n()) return STATE;
        long all = 0;
        for (long v : told) {
            if (!in(v, 0, 999999)) return STATE;
            all += v;
        }
        int[] costs = hads(p.marks)[0];
        int unfair = NONE;
        for (int set = costs.length - 1; set > 0; set--) {
            long sum = 0;
            for (int f = 0; f < n(); f++) {
                if ((set & 1 << f) != 0) sum += told[f];
            }
            if (costs[set] != NONE && sum > (long) costs[set] * n) unfair = set;
        }
        if (what == 0) return unfair;
        Fraction[] prices = pricesBy(p.marks, false);
        if (unfair != NONE || prices == null) return 0;
        return sum(prices).compareTo(Fraction.of(all).over(Fraction.of(n))) == 0 ? 1 : 0;
    }

    // ---- labels

    private int keptAll;
    private int droppedAll;
    private long way;

    private boolean lawful(Label l, int flight) {
        return l.legs <= told(l.base, 4) && l.duties <= told(l.base, 6)
                && p.flights.get(flight).arr - l.begun <= told(l.base, 5);
    }

    private void label(long[] prices) {
        keptAll = 0;
        droppedAll = 0;
        way = NO;
        List<List<Label>> come = new ArrayList<>();
        for (int f = 0; f < n(); f++) {
            come.add(new ArrayList<>());
        }
        for (int f : inOrder((1 << n()) - 1)) {
            Flight at = p.flights.get(f);
            List<Label> here = come.get(f);
            if ((p.bases & 1 << at.from) != 0) {
                long cost = p.fees[0] + (long) p.fees[1] * (at.arr - at.dep) - prices[f];
                Label l = new Label(at.from, cost, 1, 1, at.dep);
                if (lawful(l, f)) here.add(l);
            }
            List<Label> kept = new ArrayList<>();
            for (int i = 0; i < here.size(); i++) {
                boolean outdone = false;
                for (int j = 0; j < here.size(); j++) {
                    boolean alike = here.get(i).equals(here.get(j));
                    if (alike ? j < i : here.get(j).outdoes(here.get(i))) outdone = true;
                }
                if (!outdone) kept.add(here.get(i));
            }
            keptAll += kept.size();
            droppedAll += here.size() - kept.size();
            for (Label l : kept) {
                if (at.to == l.base && (way == NO || l.cost < way)) way = l.cost;
                for (int g = 0; g < n(); g++) {
                    if (how(f, g) == 0) continue;
                    Flight on = p.flights.get(g);
                    long cost = l.cost - prices[g] + (long) p.fees[1] * (on.arr - at.arr);
                    if (tight(f, g)) cost += p.fees[2];
                    if (how(f, g) == 2) cost += p.fees[0];
                    Label next = how(f, g) == 2 ? new Label(l.base, cost, l.duties + 1, 1, on.dep)
                            : new Label(l.base, cost, l.duties, l.legs + 1, l.begun);
                    if (lawful(next, g)) come.get(g).add(next);
                }
            }
        }
    }

    private int labelled(int sheet) {
        if (sheets[sheet] == null) return -11;
        long[] told = rowOf(sheet);
        if (told.length != n()) return STATE;
        for (long v : told) {
            if (!in(v, -999999, 999999)) return STATE;
        }
        label(told);
        return 0;
    }

    int labels(int sheet, int what) {
        if (!in(sheet, 0, 3) || !in(what, 0, 1)) return BAD;
        int refused = labelled(sheet);
        return refused != 0 ? refused : what == 0 ? keptAll : droppedAll;
    }

    long way(int sheet) {
        return !in(sheet, 0, 3) || labelled(sheet) != 0 ? NO : way;
    }

    // ---- who is late

    private int[] lates(int[] own) {
        List<List<Integer>> rows = new ArrayList<>();
        int[] by = hads(p.marks)[1];
        for (int set : bestBy(p.marks)) {
            rows.add(inOrder(by[set]));
        }
        int[] late = new int[n()];
        for (int g : inOrder((1 << n()) - 1)) {
            late[g] = own[g];
            for (List<Integer> row : rows) {
                int at = row.indexOf(g);
                if (at <= 0) continue;
                int f = row.get(at - 1);
                late[g] = Math.max(late[g], late[f] - slack(f, g));
            }
        }
        return late;
    }

    private int[] lateByOne(int flight, int d) {
        int[] own = new int[n()];
        own[flight] = d;
        return lates(own);
    }

    private boolean coverless() {
        return bestBy(p.marks) == null;
    }

    int late(int flight, int d, int what) {
        if (!is(flight) || !in(d, 0, 99) || !in(what, 0, 1)) return BAD;
        if (coverless()) return STATE;
        int[] late = lateByOne(flight, d);
        if (what == 1) return Arrays.stream(late).sum();
        int bits = 0;
        for (int f = 0; f < n(); f++) {
            if (late[f] > 0) bits += 1 << f;
        }
        return bits;
    }

    int worst(int d) {
        if (!in(d, 0, 99)) return BAD;
        if (coverless()) return STATE;
        int found = NONE;
        int most = 0;
        for (int f = n() - 1; f >= 0; f--) {
            int sum = Arrays.stream(lateByOne(f, d)).sum();
            if (found == NONE || sum >= most) {
                found = f;
                most = sum;
            }
        }
        return found;
    }

    private int drawnSum(int seed, int n) {
        int[] own = new int[n()];
        int z = seed;
        for (int f = 0; f < n(); f++) {
            z = z * 1103515245 + 12345;
            own[f] = (z >>> 9) % n;
        }
        return Arrays.stream(lates(own)).sum();
    }

    int drawn(int seed, int n) {
        if (!in(n, 1, 99)) return BAD;
        return coverless() ? STATE : drawnSum(seed, n);
    }

    int chance(int seed, int m, int n, int w, int part) {
        if (!in(m, 1, 20) || !in(n, 1, 99) || !in(w, 0, 9999) || !in(part, 0, 1)) return BAD;
        if (coverless()) return STATE;
        int within = 0;
        for (int i = 0; i < m; i++) {
            if (drawnSum(seed + i, n) <= w) within++;
        }
        return (int) half(Fraction.of(within).over(Fraction.of(m)), part);
    }

    // ---- texts

    int feed(int n, int... bytes) {
        if (!in(n, 1, 5)) return BAD;
        for (int b : bytes) {
            if (!in(b, 0, 255)) return BAD;
        }
        if (tape.length() + n > 60) return FULL;
        for (int i = 0; i < n; i++) {
            tape.append((char) bytes[i]);
        }
        return tape.length();
    }

    private static final Pattern TOKEN = Pattern.compile("([a-z]+)|([0-9]+)|(;)");
    private static final List<String> WORDS = List.of("fly", "kind", "base", "fee", "must", "not", "free");
    private static final int[] NUMBERS = {4, 3, 1, 2, 2, 2, 2};

    int text() {
        String s = tape.toString();
        tape = new StringBuilder();
        List<int[]> clauses = new ArrayList<>();
        Matcher m = TOKEN.matcher(s);
        int at = 0;
        while (true) {
            at = skip(s, at);
            if (at == s.length()) return -100 - at;
            m.region(at, s.length());
            if (!m.lookingAt() || m.group(1) == null || !WORDS.contains(m.group(1))) return -100 - at;
            int word = WORDS.indexOf(m.group(1));
            int[] clause = new int[NUMBERS[word] + 1];
            clause[0] = word;
            at = m.end();
            for (int i = 1; i < clause.length; i++) {
                at = skip(s, at);
                m.region(at, s.length());
                if (!m.lookingAt() || m.group(2) == null || m.group(2).length() > 3) return -100 - at;
                clause[i] = Integer.parseInt(m.group(2));
                at = m.end();
            }
            clauses.add(clause);
            at = skip(s, at);
            if (at == s.length()) break;
            if (s.charAt(at) != ';') return -100 - at;
            at++;
        }
        int done = 0;
        for (int[] c : clauses) {
            int answer = switch (c[0]) {
                case 0 -> fly(c[1], c[2], c[3], c[4]);
                case 1 -> kind(c[1], c[2], c[3]);
                case 2 -> base(c[1]);
                case 3 -> fee(c[1], c[2]);
                case 4 -> mark(c[1], c[2], 1);
                case 5 -> mark(c[1], c[2], 2);
                default -> mark(c[1], c[2], 0);
            };
            if (answer >= 0) done++;
        }
        return done;
    }

    private static int skip(String s, int at) {
        int i = at;
        while (i < s.length() && (s.charAt(i) == ' ' || s.charAt(i) == '\n')) i++;
        return i;
    }

    // ---- what was told

    private long[] rowOf(int sheet) {
        if (sheets[sheet] instanceof int[] ints) return Arrays.stream(ints).asLongStream().toArray();
        return (long[]) sheets[sheet];
    }

    int tells(int sheet, int what) {
        if (!in(sheet, 0, 3) || !in(what, 0, 2)) return BAD;
        if (sheets[sheet] == null) return -11;
        long[] told = rowOf(sheet);
        if (told.length > 7) return BAD;
        int[][] had = hads(p.marks);
        int wrong = NONE;
        int total = 0;
        int along = 0;
        boolean[] seen = new boolean[n()];
        for (int i = 0; i < told.length && wrong == NONE; i++) {
            if (!in(told[i], 1, (1L << n()) - 1) || had[0][(int) told[i]] == NONE) {
                wrong = i;
                break;
            }
            int set = (int) told[i];
            for (int f = 0; f < n(); f++) {
                if ((set & 1 << f) == 0) continue;
                if (seen[f]) wrong = i;
                seen[f] = true;
            }
            total += had[0][set];
            along += Integer.bitCount(had[1][set]) - Integer.bitCount(set);
        }
        if (what == 0) return wrong;
        for (boolean b : seen) {
            if (!b) return NONE;
        }
        return wrong != NONE ? NONE : what == 1 ? total : along;
    }

    int film(int sheet) {
        if (!in(sheet, 0, 3)) return BAD;
        List<Integer> best = bestBy(p.marks);
        if (best == null) return NONE;
        sheets[sheet] = best.stream().mapToLong(Integer::longValue).toArray();
        return best.size();
    }

    int load(int sheet, int sort, int from, int n) {
        if (!in(sheet, 0, 3) || !in(sort, 0, 1) || !in(n, 0, 7)) return BAD;
        if (sheets[sheet] != null && (sheets[sheet] instanceof int[]) != (sort == 1)) return -13;
        if (sheets[sheet] == null) return -11;
        long[] row = rowOf(sheet);
        int came = 0;
        for (int k = 0; k < n; k++) {
            int[] four = new int[4];
            for (int i = 0; i < 4; i++) {
                long at = (long) from + 4 * k + i;
                if (!in(at, 0, row.length - 1)) return -12;
                four[i] = (int) row[(int) at];
            }
            if (fly(four[0], four[1], four[2], four[3]) >= 0) came++;
        }
        return came;
    }

    int image() {
        image = p.twin();
        return n();
    }

    int back() {
        if (image == null) return STATE;
        p = image.twin();
        return n();
    }

    int count(int what) {
        int found = 0;
        if (what == 0) return n();
        if (what == 2) return tape.length();
        if (what == 5) return p.bases;
        if (in(what, 10, 14)) return p.fees[what - 10];
        if (what == 1 || what == 3) {
            for (int f = 0; f < n(); f++) {
                for (int g = 0; g < n(); g++) {
                    if (f != g && (what == 1 ? p.marks[f][g] : how(f, g)) != 0) found++;
                }
            }
            return found;
        }
        if (what != 4) return BAD;
        for (int cost : hads(p.marks)[0]) {
            if (cost != NONE) found++;
        }
        return found;
    }

    // ---- the host

    int sheet(int sheet, int sort, int n) {
        if (!in(sheet, 0, 3) || !in(sort, -1, 1)) return BAD;
        if (sort != -1 && n > 40) return BAD;
        if (sort != -1 && n < 0) return -14;
        sheets[sheet] = sort == -1 ? null : sort == 0 ? new long[n] : new int[n];
        return 1;
    }

    int put(int sheet, int i, long v) {
        if (!in(sheet, 0, 3)) return BAD;
        if (sheets[sheet] == null) return -11;
        if (!in(i, 0, rowOf(sheet).length - 1)) return -12;
        if (sheets[sheet] instanceof int[] ints) ints[i] = (int) v;
        else ((long[]) sheets[sheet])[i] = v;
        return 1;
    }

    long item(int sheet, int i) {
        if (!in(sheet, 0, 3) || sheets[sheet] == null || !in(i, 0, rowOf(sheet).length - 1)) return NO;
        return rowOf(sheet)[i];
    }

    int copy(int sheet, int i, int other, int j, int n) {
        if (!in(sheet, 0, 3) || !in(other, 0, 3)) return BAD;
        if (sheets[sheet] == null || sheets[other] == null) return -11;
        if (sheets[sheet] instanceof int[] != sheets[other] instanceof int[]) return -13;
        if (n < 0 || i < 0 || j < 0) return -12;
        if ((long) i + n > rowOf(sheet).length || (long) j + n > rowOf(other).length) return -12;
        long[] were = rowOf(sheet).clone();
        for (int k = 0; k < n; k++) {
            put(other, j + k, were[i + k]);
        }
        return n;
    }
}
