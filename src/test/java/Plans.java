/** Plans of flights that the tests share, and short hands to make more of them. */
final class Plans {
    /** Found by a search: bounds that are no whole numbers; of the last three, prices that are found by many turns. */
    static final String[] FOUND = {
        "base 7;kind 1 3 7;kind 2 2 0;kind 3 3 6;fly 0 1 55 56;fly 2 0 93 95;fly 2 0 35 37;fly 2 1 34 36;"
            + "fly 0 1 62 67;fly 1 2 75 77;fly 1 2 85 87",
        "base 15;kind 0 2 9;kind 2 5 6;kind 3 4 6;fly 0 1 17 20;fly 1 0 29 31;fly 0 1 7 10;fly 1 0 6 7;"
            + "fly 1 0 8 13;fly 0 1 27 28;fly 0 1 1 3",
        "base 3;kind 0 4 7;kind 1 2 8;fly 0 1 4 6;fly 1 0 9 12;fly 1 0 22 23;fly 0 1 17 20;fly 0 1 10 11;"
            + "fly 0 1 17 19;fly 1 0 10 14",
        "base 3;kind 0 4 8;kind 1 4 2;fly 1 0 5 8;fly 1 0 32 37;fly 0 1 43 44;fly 0 1 30 31;fly 1 0 6 8;"
            + "fly 0 1 54 56;fly 1 0 32 37",
        "base 11;kind 0 4 7;kind 1 2 4;fly 1 0 26 31;fly 0 1 33 35;fly 0 1 30 32;fly 0 1 16 17;"
            + "fly 1 0 67 69;fly 1 0 26 28;fly 1 0 46 50",
        "base 7;kind 0 4 2;kind 1 4 4;fly 0 1 27 31;fly 0 1 39 40;fly 0 1 52 54;fly 1 0 10 11;"
            + "fly 1 0 43 44;fly 1 0 32 34;fly 1 0 38 42",
        "base 6;kind 0 5 4;kind 1 1 4;kind 2 2 3;fly 2 0 17 21;fly 2 1 96 99;fly 2 0 25 30;fly 1 2 1 2;"
            + "fly 2 1 62 66;fly 0 2 48 50;fly 0 2 60 62",
        "base 7;kind 0 2 3;kind 1 0 1;fly 0 1 33 34;fly 0 1 21 23;fly 0 1 49 53;fly 1 0 26 28;"
            + "fly 1 0 44 47;fly 1 0 16 17;fly 0 1 10 15;fee 0 90",
        "base 3;kind 0 4 5;kind 1 0 1;fly 1 0 51 56;fly 0 1 44 45;fly 1 0 26 27;fly 1 0 41 46;"
            + "fly 0 1 19 23;fly 0 1 39 42;fly 1 0 25 30;fee 1 0;fee 4 14",
        "base 3;kind 0 3 9;kind 1 1 1;fly 1 0 19 24;fly 1 0 2 4;fly 0 1 58 62;fly 0 1 9 12;"
            + "fly 0 1 29 33;fly 1 0 22 26;fly 1 0 39 42;fee 0 94;fee 4 0"};

    private Plans() { }

    /** A plan told by clauses, as a text would tell them. */
    static CrewPairings of(String clauses) {
        CrewPairings x = new CrewPairings();
        for (String clause : clauses.split(";")) {
            if (text(x, clause) != 1) throw new IllegalStateException(clause);
        }
        return x;
    }

    static void fly(CrewPairings x, int... fours) {
        for (int i = 0; i < fours.length; i += 4) {
            int came = x.fly(fours[i], fours[i + 1], fours[i + 2], fours[i + 3]);
            if (came < 0) throw new IllegalStateException("flight " + i / 4 + " is refused");
        }
    }

    static CrewPairings plan(int... fours) {
        CrewPairings x = new CrewPairings();
        fly(x, fours);
        return x;
    }

    /** There and back by a tight sit: slack 1. Costs 37. */
    static CrewPairings two() {
        return plan(0, 1, 0, 10, 1, 0, 14, 22);
    }

    /** There and back by a sit that isn't tight: slack 2. Costs 35. */
    static CrewPairings calm() {
        return plan(0, 1, 0, 10, 1, 0, 15, 25);
    }

    /** There and never back: no pairing, so no cover. */
    static CrewPairings lonely() {
        return plan(0, 1, 0, 10);
    }

    /** Two out, one back: {0, 2} costs 40, {1, 2} costs 38; one flies back along. */
    static CrewPairings fan() {
        return plan(0, 1, 0, 10, 0, 1, 2, 10, 1, 0, 20, 30);
    }

    /** Five out, two back, all for nothing: the least sets are those of one flight each. */
    static CrewPairings singles() {
        CrewPairings x = plan(0, 1, 0, 5, 0, 1, 0, 6, 0, 1, 0, 7, 0, 1, 0, 8, 0, 1, 0, 9, 1, 0, 15, 20, 1, 0, 15, 20);
        for (int fee = 0; fee < 4; fee++) {
            x.fee(fee, 0);
        }
        return x;
    }

    /** Three out, three back, all alike: each out goes with each back. */
    static CrewPairings threes() {
        return plan(0, 1, 0, 10, 0, 1, 0, 10, 0, 1, 0, 10, 1, 0, 20, 30, 1, 0, 20, 30, 1, 0, 20, 30);
    }

    /** 0 -> 1 -> 0 -> 1 -> 0 of a lax base, all by sits: pairings 3, 9, 12, 15. */
    static CrewPairings chain() {
        CrewPairings x = plan(0, 1, 0, 5, 1, 0, 10, 15, 0, 1, 20, 25, 1, 0, 30, 35);
        x.kind(0, 2, 0);
        return x;
    }

    /** 0 -> 1 -> 0 -> 1 -> 0 by sits, then a rest, then 0 -> 2 -> 0: pairings 3, 9, 12, 48, 51, 57, 60. */
    static CrewPairings six() {
        return plan(0, 1, 0, 10, 1, 0, 14, 22, 0, 1, 26, 36, 1, 0, 39, 50, 0, 2, 72, 80, 2, 0, 84, 90);
    }

    /** Its bound is 353/2, its best cover 198. */
    static CrewPairings halves() {
        return of(FOUND[0]);
    }

    /** A tree of 39 nodes. */
    static CrewPairings bush() {
        return of("base 7;kind 0 4 2;kind 1 5 7;fly 1 0 55 56;fly 1 0 56 61;fly 1 0 27 33;fly 0 1 25 28;"
                + "fly 0 1 3 8;fly 0 1 10 12;fly 1 0 1 2");
    }

    /** A tree of 41 nodes. */
    static CrewPairings thicket() {
        CrewPairings x = plan();
        growThicket(x);
        return x;
    }

    static void growThicket(CrewPairings x) {
        fly(x, 1, 0, 19, 20, 1, 0, 59, 63, 0, 1, 40, 44, 1, 0, 58, 63, 0, 1, 5, 10, 0, 1, 13, 17, 0, 1, 39, 40);
        x.kind(0, 4, 5);
        x.kind(1, 1, 3);
        x.fee(1, 3);
    }

    /** There and back three times; all six flights are a pairing, and the tree has three nodes. */
    static CrewPairings ring() {
        return of("base 11;kind 0 2 7;kind 1 2 1;fly 0 1 0 1;fly 1 0 5 6;fly 0 1 8 9;fly 1 0 32 34;fly 0 1 38 39;"
                + "fly 1 0 43 46;fee 1 4");
    }

    /** Seven flights, so that there is no room for another one. */
    static void full(CrewPairings x) {
        fly(x, 0, 1, 0, 5, 1, 0, 10, 15, 0, 1, 20, 25, 1, 0, 30, 35, 0, 1, 60, 65, 1, 0, 70, 75, 0, 2, 80, 90);
    }

    /** Something of all that an object holds: flights, marks, kinds, fees, sheets, tape, an image of another state. */
    static void busy(CrewPairings x) {
        fly(x, 0, 1, 5, 15, 1, 0, 20, 30, 2, 3, 1, 2);
        x.mark(0, 1, 2);
        x.kind(3, 1, 4);
        x.base(5);
        x.fee(0, 44);
        x.image();
        x.drop();
        x.shift(0, 0, 10);
        x.shift(1, 14, 22);
        fly(x, 0, 1, 26, 36, 1, 0, 39, 50, 0, 2, 72, 80, 2, 0, 84, 90);
        x.mark(0, 1, 0);
        x.mark(4, 5, 1);
        x.mark(1, 4, 2);
        x.kind(3, 4, 9);
        x.base(1);
        x.fee(0, 12);
        row(x, 0, 0, 5, 0, 7, 0, 9, 0);
        row(x, 1, 1, 3, 12, 48);
        row(x, 3, 0, 0, 1, 5, 15, 1, 0, 18, 28, 9);
        feed(x, "fee 0 7;base 3");
    }

    static void row(CrewPairings x, int sheet, int sort, long... v) {
        x.sheet(sheet, sort, v.length);
        for (int i = 0; i < v.length; i++) {
            x.put(sheet, i, v[i]);
        }
    }

    static void feed(CrewPairings x, String s) {
        for (int at = 0; at < s.length(); at += 5) {
            int n = Math.min(5, s.length() - at);
            int[] b = new int[5];
            for (int i = 0; i < n; i++) {
                b[i] = s.charAt(at + i);
            }
            x.feed(n, b[0], b[1], b[2], b[3], b[4]);
        }
    }

    static int text(CrewPairings x, String s) {
        feed(x, s);
        return x.text();
    }
}
