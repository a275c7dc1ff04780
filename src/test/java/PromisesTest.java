/** Each promise of the document by hand-made calls: what is ordinary, the edges, wrong inputs. */
public final class PromisesTest {
    private static final int NONE = -1, BAD = -2, STATE = -3, FULL = -4, DEAR = -5;
    private static final int MISSING = -11, OUTSIDE = -12, UNLIKE = -13, SIZE = -14;
    private static final int LOW = Integer.MIN_VALUE, HIGH = Integer.MAX_VALUE;
    private static final long NO = Long.MIN_VALUE;
    private static int wrong = 0;
    private static int asked = 0;

    private static void due(int promise, String what, long got, long want) {
        asked++;
        if (got != want) {
            wrong++;
            System.out.println("promise " + promise + ", " + what + ": answered " + got + ", due is " + want);
        }
    }

    private static int feed(CrewPairings x, String s) {
        int size = x.count(2);
        for (int at = 0; at < s.length(); at++) {
            size = x.feed(1, s.charAt(at), 0, 0, 0, 0);
        }
        return size;
    }

    private static int text(CrewPairings x, String s) {
        feed(x, s);
        return x.text();
    }

    private static void row(CrewPairings x, int sheet, int sort, long... v) {
        x.sheet(sheet, sort, v.length);
        for (int i = 0; i < v.length; i++) {
            x.put(sheet, i, v[i]);
        }
    }

    /** 0 -> 1 -> 0 -> 1 -> 0 by sits, then a rest, then 0 -> 2 -> 0. */
    private static CrewPairings six() {
        CrewPairings x = new CrewPairings();
        x.fly(0, 1, 0, 10);
        x.fly(1, 0, 14, 22);
        x.fly(0, 1, 26, 36);
        x.fly(1, 0, 39, 50);
        x.fly(0, 2, 72, 80);
        x.fly(2, 0, 84, 90);
        return x;
    }

    private static CrewPairings two() {
        CrewPairings x = new CrewPairings();
        x.fly(0, 1, 0, 10);
        x.fly(1, 0, 14, 22);
        return x;
    }

    private static CrewPairings lonely() {
        CrewPairings x = new CrewPairings();
        x.fly(0, 1, 0, 10);
        return x;
    }

    /** Its bound is 353/2, its best cover 198. */
    private static CrewPairings halves() {
        CrewPairings x = new CrewPairings();
        x.base(7);
        x.kind(1, 3, 7);
        x.kind(2, 2, 0);
        x.fly(0, 1, 55, 56);
        x.fly(2, 0, 93, 95);
        x.fly(2, 0, 35, 37);
        x.fly(2, 1, 34, 36);
        x.fly(0, 1, 62, 67);
        x.fly(1, 2, 75, 77);
        x.fly(1, 2, 85, 87);
        return x;
    }

    /** A tree of more than 40 nodes. */
    private static CrewPairings thicket() {
        CrewPairings x = new CrewPairings();
        x.base(3);
        x.kind(0, 4, 8);
        x.kind(1, 4, 2);
        x.fly(1, 0, 5, 8);
        x.fly(1, 0, 32, 37);
        x.fly(0, 1, 43, 44);
        x.fly(0, 1, 30, 31);
        x.fly(1, 0, 6, 8);
        x.fly(0, 1, 54, 56);
        x.fly(1, 0, 32, 37);
        return x;
    }

    private static void newObject() {
        CrewPairings x = new CrewPairings();
        due(1, "no flights", x.count(0), 0);
        due(1, "no marks", x.count(1), 0);
        due(1, "tape", x.count(2), 0);
        due(1, "follow", x.count(3), 0);
        due(1, "had", x.count(4), 0);
        due(1, "bases", x.count(5), 1);
        int[] fees = {10, 1, 5, 20, 2};
        for (int i = 0; i < 5; i++) {
            due(1, "fee " + i, x.count(10 + i), fees[i]);
        }
        for (int a = 0; a < 4; a++) {
            due(1, "kind", x.told(a, 0), 0);
            due(1, "figure", x.told(a, 1), 0);
            due(1, "sheet", x.put(a, 0, 1), MISSING);
        }
        due(1, "no image", x.back(), STATE);
    }

    private static void flyAndDrop() {
        CrewPairings x = new CrewPairings();
        due(2, "least times", x.fly(0, 3, 0, 1), 0);
        due(2, "greatest times", x.fly(3, 0, 298, 299), 1);
        int[][] bad = {{-1, 0, 1, 2}, {4, 0, 1, 2}, {0, -1, 1, 2}, {0, 4, 1, 2}, {2, 2, 1, 2}, {0, 1, -1, 2},
            {0, 1, 1, 300}, {0, 1, 300, 301}, {0, 1, 5, 5}, {0, 1, 6, 5}, {LOW, HIGH, LOW, HIGH}};
        for (int[] b : bad) {
            due(2, "bad", x.fly(b[0], b[1], b[2], b[3]), BAD);
        }
        due(2, "nothing came", x.count(0), 2);
        for (int i = 2; i < 7; i++) {
            due(2, "more", x.fly(1, 2, i, 50), i);
        }
        due(2, "full", x.fly(1, 2, 3, 4), FULL);
        due(2, "bad ahead of full", x.fly(1, 1, 3, 4), BAD);
        x.mark(6, 0, 1);
        x.mark(0, 6, 2);
        x.mark(0, 1, 2);
        due(3, "drop", x.drop(), 6);
        due(3, "its marks went", x.count(1), 1);
        due(3, "it is none", x.of(6, 0), BAD);
        due(2, "room again", x.fly(3, 2, 7, 8), 6);
        due(3, "new one is free", x.mark(6, 0, 0), 0);
        for (int i = 6; i >= 0; i--) {
            due(3, "drop all", x.drop(), i);
        }
        due(3, "none left", x.drop(), STATE);
        due(3, "no marks left", x.count(1), 0);
    }

    private static void ofFlight() {
        CrewPairings x = six();
        due(4, "from", x.of(4, 0), 0);
        due(4, "to", x.of(4, 1), 2);
        due(4, "dep", x.of(4, 2), 72);
        due(4, "arr", x.of(4, 3), 80);
        due(4, "by a sit", x.of(1, 4), 4);
        due(4, "by a rest", x.of(1, 5), 16);
        due(4, "tight", x.of(0, 6), 2);
        due(4, "by a sit, tight or not", x.of(0, 4), 2);
        due(4, "a rest is never tight", x.of(1, 6), 4);
        x.fee(4, 3);
        due(4, "slack 1 below 3", x.of(1, 6), 4);
        x.fee(4, 1);
        due(4, "slack 1 not below 1", x.of(1, 6), 0);
        x.fly(1, 0, 85, 99);
        x.shift(0, 103, 110);
        due(4, "flight 0 follows, too", x.of(6, 6) + 10 * x.of(6, 4), 10);
        x.fee(4, 2);
        due(4, "flight 0 is tight, too", x.of(6, 6), 1);
        x.drop();
        due(4, "flight", x.of(6, 0), BAD);
        due(4, "flight below", x.of(-1, 0), BAD);
        due(4, "what", x.of(0, 7), BAD);
        due(4, "what below", x.of(0, -1), BAD);
    }

    private static void shiftFlight() {
        CrewPairings x = two();
        due(5, "shift", x.shift(1, 33, 40), 14);
        due(5, "dep", x.of(1, 2), 33);
        due(5, "arr", x.of(1, 3), 40);
        due(5, "by a rest now", x.follows(0, 1), 2);
        int[][] bad = {{2, 1, 2}, {-1, 1, 2}, {0, 5, 5}, {0, -1, 5}, {0, 5, 300}, {0, 9, 5}};
        for (int[] b : bad) {
            due(5, "bad", x.shift(b[0], b[1], b[2]), BAD);
        }
        due(5, "stays", x.of(0, 2), 0);
    }

    private static void kinds() {
        // sit, rest, legs, span, duties of each kind with figure 8
        int[][] want = {{3, 20, 3, 40, 3}, {5, 28, 3, 32, 3}, {2, 20, 4, 48, 3}, {5, 23, 2, 32, 3},
            {1, 12, 4, 58, 2}, {12, 20, 2, 40, 2}};
        CrewPairings x = new CrewPairings();
        int was = 0;
        for (int k = 0; k < 6; k++) {
            due(6, "what it was", x.kind(3, k, 8), was);
            was = 10 * k + 8;
            due(7, "kind", x.told(3, 0), k);
            due(7, "figure", x.told(3, 1), 8);
            for (int what = 2; what < 7; what++) {
                due(7, "kind " + k + " what " + what, x.told(3, what), want[k][what - 2]);
            }
        }
        due(6, "another airport", x.told(2, 0), 0);
        int[][] bad = {{-1, 0, 0}, {4, 0, 0}, {0, -1, 0}, {0, 6, 0}, {0, 0, -1}, {0, 0, 10}};
        for (int[] b : bad) {
            due(6, "bad", x.kind(b[0], b[1], b[2]), BAD);
        }
        due(6, "stays", x.kind(3, 1, 9), 58);
        due(7, "strict 9 sits 3", x.told(3, 2), 3);
        due(7, "airport", x.told(4, 0), BAD);
        due(7, "airport below", x.told(-1, 0), BAD);
        due(7, "what", x.told(0, 7), BAD);
        due(7, "what below", x.told(0, -1), BAD);
    }

    private static void takenFor() {
        int[] spans = {40, 33, 47, 33, 57, 40};
        String[] under = {"100000", "110000", "101000", "110100", "101010", "100001"};
        CrewPairings x = new CrewPairings();
        for (int own = 0; own < 6; own++) {
            x.kind(1, own, 7);
            for (int k = 0; k < 6; k++) {
                int want = under[own].charAt(k) == '1' ? spans[own] : UNLIKE;
                due(8, own + " taken for " + k, x.taken(1, k), want);
            }
        }
        due(8, "airport", x.taken(4, 0), BAD);
        due(8, "airport below", x.taken(-1, 0), BAD);
        due(8, "kind", x.taken(1, 6), BAD);
        due(8, "kind below", x.taken(1, -1), BAD);
    }

    private static void basesFeesMarks() {
        CrewPairings x = two();
        due(9, "base", x.base(15), 1);
        due(9, "none", x.base(0), 15);
        due(9, "above", x.base(16), BAD);
        due(9, "below", x.base(-1), BAD);
        due(9, "stays", x.count(5), 0);
        due(9, "no pairings without a base", x.pairings(-1), 0);
        int[] first = {10, 1, 5, 20, 2};
        int[] most = {99, 9, 99, 99, 20};
        for (int i = 0; i < 5; i++) {
            due(10, "too much", x.fee(i, most[i] + 1), BAD);
            due(10, "below", x.fee(i, -1), BAD);
            due(10, "most", x.fee(i, most[i]), first[i]);
            due(10, "least", x.fee(i, 0), most[i]);
        }
        due(10, "which", x.fee(5, 0), BAD);
        due(10, "which below", x.fee(-1, 0), BAD);
        due(11, "must", x.mark(0, 1, 1), 0);
        due(11, "not", x.mark(0, 1, 2), 1);
        due(11, "the other way is another", x.mark(1, 0, 1), 0);
        due(11, "count", x.count(1), 2);
        due(11, "free", x.mark(0, 1, 0), 2);
        int[][] bad = {{0, 0, 1}, {0, 2, 1}, {2, 0, 1}, {-1, 0, 1}, {0, -1, 1}, {0, 1, 3}, {0, 1, -1}};
        for (int[] b : bad) {
            due(11, "bad", x.mark(b[0], b[1], b[2]), BAD);
        }
        due(11, "count", x.count(1), 1);
    }

    private static void followsBy() {
        CrewPairings x = new CrewPairings();
        x.fly(0, 1, 0, 10);
        x.fly(1, 0, 12, 20);
        due(12, "gap 2", x.follows(0, 1), 0);
        x.shift(1, 13, 20);
        due(12, "gap 3", x.follows(0, 1), 1);
        x.shift(1, 29, 40);
        due(12, "gap 19", x.follows(0, 1), 1);
        x.shift(1, 30, 40);
        due(12, "gap 20", x.follows(0, 1), 2);
        due(12, "not back in time", x.follows(1, 0), 0);
        x.kind(1, 1, 1);
        due(12, "strict there", x.follows(0, 1), 1);
        x.kind(0, 4, 9);
        due(12, "elsewhere doesn't matter", x.follows(0, 1), 1);
        x.fly(2, 0, 50, 60);
        due(12, "from elsewhere", x.follows(0, 2), 0);
        due(12, "same", x.follows(1, 1), BAD);
        due(12, "f", x.follows(3, 1), BAD);
        due(12, "g", x.follows(1, -1), BAD);
    }

    private static void pairingsOfSix() {
        CrewPairings x = six();
        // slack 1 at 1, then 1 at 0, then 0 at 1: legs 4 are too many by the plain base 0
        due(13, "cost", x.pairing(3, 0), 10 + 22 + 5);
        due(13, "duties", x.pairing(3, 1), 1);
        due(13, "tights", x.pairing(3, 2), 1);
        due(13, "base", x.pairing(3, 3), 0);
        due(13, "too many legs", x.pairing(15, 0), NONE);
        due(13, "two duties", x.pairing(51, 0), 20 + 90 + 10);
        due(13, "two duties", x.pairing(51, 1), 2);
        due(13, "doesn't end at a base", x.pairing(1, 0), NONE);
        due(13, "doesn't begin at a base", x.pairing(2, 3), NONE);
        x.kind(0, 2, 9);
        due(13, "span 50 by its lax base is too long", x.pairing(15, 0), NONE);
        x.shift(3, 39, 49);
        due(13, "span 49", x.pairing(15, 2), 2);
        x.kind(0, 0, 0);
        due(13, "empty", x.pairing(0, 0), BAD);
        due(13, "no such flight", x.pairing(64, 0), BAD);
        due(13, "below", x.pairing(-1, 0), BAD);
        due(13, "least", x.pairing(LOW, 0), BAD);
        due(13, "what", x.pairing(3, 4), BAD);
        due(13, "what below", x.pairing(3, -1), BAD);
        x = six();
        due(14, "count", x.pairings(-1), 7);
        int[] sets = {3, 9, 12, 48, 51, 57, 60};
        x.kind(0, 2, 9);
        x.kind(1, 2, 0);
        for (int i = 0; i < sets.length; i++) {
            due(14, "k", x.pairings(i), sets[i]);
        }
        due(14, "k above", x.pairings(7), OUTSIDE);
        due(14, "k below", x.pairings(-2), OUTSIDE);
        due(14, "least", x.pairings(LOW), OUTSIDE);
        due(14, "most", x.pairings(HIGH), OUTSIDE);
    }

    private static void marksOfPairings() {
        CrewPairings x = six();
        x.mark(1, 4, 1);
        due(11, "must: has both", x.pairing(51, 0), 120);
        due(11, "must: one alone", x.pairing(3, 0), NONE);
        due(11, "must: the other alone", x.pairing(48, 0), NONE);
        due(11, "must: one behind another", x.pairing(57, 0), NONE);
        due(11, "must: has neither", x.pairing(12, 1), 1);
        x.mark(1, 4, 2);
        due(11, "not: has them so", x.pairing(51, 0), NONE);
        due(11, "not: one alone", x.pairing(3, 1), 1);
        x.mark(1, 4, 0);
        x.mark(4, 1, 2);
        due(11, "not the other way", x.pairing(51, 1), 2);
    }

    private static void dutiesAndSpans() {
        CrewPairings x = new CrewPairings();
        x.fly(0, 1, 0, 20);
        x.fly(1, 0, 23, 40);
        due(13, "span 40", x.pairing(3, 1), 1);
        x.shift(1, 23, 41);
        due(13, "span 41", x.pairing(3, 1), NONE);
        x.shift(1, 100, 110);
        due(13, "two duties", x.pairing(3, 1), 2);
        due(13, "away over both", x.pairing(3, 0), 20 + 110);
        x.fly(0, 1, 150, 160);
        x.fly(1, 0, 200, 210);
        due(13, "four duties", x.pairing(15, 1), NONE);
        x.shift(3, 170, 175);
        due(13, "three duties", x.pairing(15, 1), 3);
        x.kind(0, 5, 0);
        due(13, "of a union base two at most", x.pairing(15, 1), NONE);
        due(13, "two are fine", x.pairing(3, 1), 2);
        x.base(2);
        due(13, "another base", x.pairing(6, 3), 1);
        due(13, "no base", x.pairing(3, 3), NONE);
    }

    private static void hadBy() {
        CrewPairings x = six();
        due(15, "itself", x.had(3, 0), 37);
        due(15, "by", x.had(3, 1), 3);
        due(15, "one along", x.had(1, 0), 57);
        due(15, "by which", x.had(1, 1), 3);
        due(15, "two along", x.had(33, 0), 120 + 40);
        due(15, "two along", x.had(33, 1), 51);
        due(15, "not had", x.had(15, 0), NONE);
        due(15, "not had", x.had(15, 1), NONE);
        x.fee(3, 0);
        x.fee(1, 0);
        x.fee(2, 0);
        due(15, "of like ones the least", x.had(1, 1), 3);
        due(15, "of like ones the least", x.had(16, 1), 48);
        due(15, "empty", x.had(0, 0), BAD);
        due(15, "no such flight", x.had(64, 0), BAD);
        due(15, "below", x.had(-5, 1), BAD);
        due(15, "what", x.had(3, 2), BAD);
        due(15, "what below", x.had(3, -1), BAD);
    }

    private static void bestCover() {
        CrewPairings x = six();
        due(16, "total", x.best(0), 109);
        due(16, "sets", x.best(1), 3);
        due(16, "along", x.best(2), 0);
        due(17, "set", x.bestOf(3, 0), 12);
        due(17, "by", x.bestOf(3, 1), 12);
        due(16, "what", x.best(3), BAD);
        due(16, "what below", x.best(-1), BAD);
        due(17, "flight", x.bestOf(6, 0), BAD);
        due(17, "flight below", x.bestOf(-1, 0), BAD);
        due(17, "what", x.bestOf(0, 2), BAD);
        x = lonely();
        for (int what = 0; what < 3; what++) {
            due(16, "no cover", x.best(what), NONE);
        }
        due(17, "no cover", x.bestOf(0, 0), NONE);
        due(17, "no cover", x.bestOf(0, 1), NONE);
        // two ways out, one back: one flies along
        x.fly(0, 1, 2, 10);
        x.fly(1, 0, 20, 30);
        due(16, "total", x.best(0), 40 + 38 + 20);
        due(16, "along", x.best(2), 1);
        due(17, "of like ones the least", x.bestOf(0, 0), 1);
        due(17, "by", x.bestOf(0, 1), 5);
        due(17, "the rest", x.bestOf(2, 0), 6);
    }

    private static void boundsAndPrices() {
        CrewPairings x = new CrewPairings();
        due(18, "no flights", x.bound(0), 0);
        due(18, "no flights", x.bound(1), 1);
        x = two();
        due(18, "bound", x.bound(0), 37);
        due(18, "part", x.bound(2), NO);
        due(18, "part below", x.bound(-1), NO);
        due(19, "the first's is greatest", x.price(0, 0), 37);
        due(19, "the second's", x.price(1, 0), 0);
        due(19, "below the line", x.price(1, 1), 1);
        due(19, "flight", x.price(2, 0), NO);
        due(19, "flight below", x.price(-1, 0), NO);
        due(19, "part", x.price(0, 2), NO);
        x = lonely();
        due(18, "in no set", x.bound(0), NO);
        due(19, "in no set", x.price(0, 0), NO);
        x = halves();
        due(18, "above", x.bound(0), 353);
        due(18, "below", x.bound(1), 2);
        due(18, "best is more", x.best(0), 198);
        long twice = 0;
        for (int f = 0; f < 7; f++) {
            twice += 2 * x.price(f, 0) / x.price(f, 1);
        }
        due(19, "they come to the bound", twice, 353);
    }

    private static void branchAndTree() {
        CrewPairings x = two();
        due(20, "must", x.branch(0, 1, 1, 0), 37);
        due(20, "below", x.branch(0, 1, 1, 1), 1);
        due(20, "not", x.branch(0, 1, 2, 0), NO);
        due(20, "the marks stay", x.count(1), 0);
        due(20, "the prices stay", x.price(0, 0), 37);
        x.mark(0, 1, 2);
        due(20, "another mark instead", x.branch(0, 1, 1, 0), 37);
        x.mark(0, 1, 0);
        int[][] bad = {{0, 0, 1, 0}, {0, 2, 1, 0}, {-1, 1, 1, 0}, {0, 1, 0, 0}, {0, 1, 3, 0}, {0, 1, 1, 2}};
        for (int[] b : bad) {
            due(20, "bad", x.branch(b[0], b[1], b[2], b[3]), NO);
        }
        due(21, "one node", x.tree(0), 1);
        due(21, "with a cover", x.tree(1), 0);
        due(21, "what", x.tree(2), BAD);
        due(21, "what below", x.tree(-1), BAD);
        due(21, "no cover", lonely().tree(0), 1);
        due(21, "no cover", lonely().tree(1), 1);
        due(21, "no flights", new CrewPairings().tree(0), 1);
        due(21, "nodes", halves().tree(0), 17);
        due(21, "dear", thicket().tree(0), DEAR);
        due(21, "dear", thicket().tree(1), DEAR);
        due(21, "bad ahead of dear", thicket().tree(2), BAD);
        x = thicket();
        x.tree(0);
        due(21, "the marks stay", x.count(1), 0);
    }

    private static void provesPrices() {
        CrewPairings x = two();
        row(x, 0, 1, 37, 0);
        due(22, "fair", x.proves(0, 1, 0), NONE);
        due(22, "proves", x.proves(0, 1, 1), 1);
        row(x, 0, 0, 30, 7);
        due(22, "proves as well", x.proves(0, 1, 1), 1);
        row(x, 0, 0, 30, 8);
        due(22, "too much for both", x.proves(0, 1, 0), 3);
        due(22, "not fair", x.proves(0, 1, 1), 0);
        row(x, 0, 0, 58, 0);
        due(22, "too much for one", x.proves(0, 1, 0), 1);
        row(x, 0, 0, 30, 6);
        due(22, "fair, but too little", x.proves(0, 1, 1), 0);
        row(x, 0, 0, 7 * 99, 30 * 99);
        due(22, "in 99ths", x.proves(0, 99, 1), 1);
        due(22, "n", x.proves(0, 0, 0), BAD);
        due(22, "n above", x.proves(0, 100, 0), BAD);
        due(22, "what", x.proves(0, 1, 2), BAD);
        due(22, "sheet", x.proves(4, 1, 0), BAD);
        due(22, "sheet below", x.proves(-1, 1, 0), BAD);
        due(22, "missing", x.proves(1, 1, 0), MISSING);
        row(x, 0, 0, 1);
        due(22, "fewer", x.proves(0, 1, 0), STATE);
        row(x, 0, 0, 1, 2, 3);
        due(22, "more", x.proves(0, 1, 0), STATE);
        row(x, 0, 0, -1, 2);
        due(22, "below 0", x.proves(0, 1, 0), STATE);
        row(x, 0, 0, 0, 1000000);
        due(22, "above", x.proves(0, 1, 0), STATE);
        row(x, 0, 0, 0, 999999);
        due(22, "most", x.proves(0, 1, 0), 2);
        x = lonely();
        row(x, 0, 0, 5);
        due(22, "no bound, fair", x.proves(0, 1, 0), NONE);
        due(22, "no bound", x.proves(0, 1, 1), 0);
        x = new CrewPairings();
        row(x, 0, 0);
        due(22, "no flights", x.proves(0, 1, 1), 1);
    }

    private static void labelsAndWays() {
        CrewPairings x = two();
        row(x, 0, 0, 5, 6);
        due(23, "kept", x.labels(0, 0), 2);
        due(23, "dropped", x.labels(0, 1), 0);
        due(24, "way", x.way(0), 37 - 11);
        row(x, 0, 1, -999999, 999999);
        due(24, "far prices", x.way(0), 37);
        x.mark(0, 1, 2);
        due(24, "marks don't matter", x.way(0), 37);
        // the later way out is cheaper and begins later: the earlier one is dropped at the way back
        x = new CrewPairings();
        x.fly(0, 1, 0, 10);
        x.fly(0, 1, 2, 10);
        x.fly(1, 0, 20, 30);
        row(x, 0, 0, 0, 0, 0);
        due(23, "kept", x.labels(0, 0), 3);
        due(23, "dropped", x.labels(0, 1), 1);
        due(24, "way", x.way(0), 38);
        row(x, 0, 0, 3, 0, 0);
        due(23, "neither outdoes", x.labels(0, 0), 4);
        due(24, "way", x.way(0), 37);
        x.shift(1, 0, 10);
        row(x, 0, 0, 0, 0, 0);
        due(23, "alike: one is kept", x.labels(0, 0), 3);
        due(23, "alike: one is dropped", x.labels(0, 1), 1);
        x = lonely();
        row(x, 0, 0, 0);
        due(24, "none gets home", x.way(0), NO);
        due(23, "it begins", x.labels(0, 0), 1);
        x.shift(0, 0, 41);
        due(23, "too long to begin", x.labels(0, 0), 0);
        x.base(2);
        due(23, "no base", x.labels(0, 0), 0);
        row(x, 0, 0, -1000000);
        due(23, "below", x.labels(0, 0), STATE);
        due(24, "below", x.way(0), NO);
        row(x, 0, 0, 1000000);
        due(23, "above", x.labels(0, 1), STATE);
        row(x, 0, 0, 1, 1);
        due(23, "more", x.labels(0, 0), STATE);
        due(24, "more", x.way(0), NO);
        due(23, "what", x.labels(0, 2), BAD);
        due(23, "what below", x.labels(0, -1), BAD);
        due(23, "sheet", x.labels(4, 0), BAD);
        due(23, "missing", x.labels(1, 0), MISSING);
        due(24, "sheet", x.way(-1), NO);
        due(24, "missing", x.way(1), NO);
    }

    private static void delays() {
        CrewPairings x = six();
        due(25, "who", x.late(2, 12, 0), 12);
        due(25, "how much", x.late(2, 12, 1), 24);
        due(25, "slack takes it up", x.late(0, 1, 0), 1);
        due(25, "none", x.late(0, 0, 0), 0);
        due(25, "d", x.late(0, 100, 0), BAD);
        due(25, "d below", x.late(0, -1, 0), BAD);
        due(25, "flight", x.late(6, 1, 0), BAD);
        due(25, "what", x.late(0, 1, 2), BAD);
        due(26, "worst", x.worst(5), 2);
        due(26, "of like ones the first", x.worst(0), 0);
        due(26, "d", x.worst(100), BAD);
        due(26, "d below", x.worst(-1), BAD);
        due(26, "no flights", new CrewPairings().worst(9), NONE);
        due(25, "no cover", lonely().late(0, 1, 0), STATE);
        due(26, "no cover", lonely().worst(1), STATE);
        due(26, "bad ahead of state", lonely().worst(100), BAD);
        // flight 2 goes behind both: of those ahead the one that is late most matters
        x = lonely();
        x.fly(0, 1, 2, 10);
        x.fly(1, 0, 20, 30);
        due(25, "flown along counts", x.late(0, 9, 0), 5);
        due(25, "flown along counts", x.late(0, 9, 1), 11);
        due(25, "so does the other", x.late(1, 9, 0), 6);
    }

    private static void draws() {
        CrewPairings x = two();
        int z1 = 7 * 1103515245 + 12345;
        int z2 = z1 * 1103515245 + 12345;
        int own0 = (z1 >>> 9) % 50;
        int own1 = (z2 >>> 9) % 50;
        due(27, "drawn", x.drawn(7, 50), own0 + Math.max(own1, own0 - 1));
        due(27, "by 1", x.drawn(7, 1), 0);
        due(27, "n", x.drawn(7, 0), BAD);
        due(27, "n above", x.drawn(7, 100), BAD);
        due(27, "no cover", lonely().drawn(7, 5), STATE);
        due(27, "no flights", new CrewPairings().drawn(7, 5), 0);
        int within = 0;
        for (int i = 0; i < 20; i++) {
            if (x.drawn(HIGH - 3 + i, 50) <= 60) within++;
        }
        int common = within % 20 == 0 ? 20 : within % 10 == 0 ? 10 : within % 5 == 0 ? 5 : within % 4 == 0 ? 4
            : within % 2 == 0 ? 2 : 1;
        due(28, "above", x.chance(HIGH - 3, 20, 50, 60, 0), within / common);
        due(28, "below", x.chance(HIGH - 3, 20, 50, 60, 1), 20 / common);
        due(28, "all", x.chance(1, 20, 99, 9999, 0), 1);
        due(28, "all", x.chance(1, 20, 99, 9999, 1), 1);
        due(28, "as much as w is within", x.chance(1, 1, 99, x.drawn(1, 99), 0), 1);
        due(28, "none", x.chance(1, 1, 99, x.drawn(1, 99) - 1, 0), 0);
        due(28, "none", x.chance(1, 1, 99, x.drawn(1, 99) - 1, 1), 1);
        int[][] bad = {{0, 5, 5, 0}, {21, 5, 5, 0}, {5, 0, 5, 0}, {5, 100, 5, 0}, {5, 5, -1, 0}, {5, 5, 10000, 0},
            {5, 5, 5, 2}, {5, 5, 5, -1}};
        for (int[] b : bad) {
            due(28, "bad", x.chance(1, b[0], b[1], b[2], b[3]), BAD);
        }
        due(28, "no cover", lonely().chance(1, 1, 1, 1, 0), STATE);
    }

    private static void tape() {
        CrewPairings x = new CrewPairings();
        due(29, "two", x.feed(2, 'b', 'a', 255, 0, 0), 2);
        due(29, "n", x.feed(0, 1, 1, 1, 1, 1), BAD);
        due(29, "n above", x.feed(6, 1, 1, 1, 1, 1), BAD);
        int[] bytes = {1, 1, 1, 1, 1};
        for (int i = 0; i < 5; i++) {
            for (int b : new int[] {-1, 256}) {
                bytes[i] = b;
                due(29, "also those that aren't asked", x.feed(1, bytes[0], bytes[1], bytes[2], bytes[3], bytes[4]), BAD);
                bytes[i] = 1;
            }
        }
        for (int i = 7; i <= 57; i += 5) {
            due(29, "five", x.feed(5, 1, 1, 1, 1, 1), i);
        }
        due(29, "no room", x.feed(4, 1, 1, 1, 1, 1), FULL);
        due(29, "bad ahead of full", x.feed(4, 1, 1, 1, 1, 256), BAD);
        due(29, "just room", x.feed(3, 1, 1, 1, 1, 1), 60);
        due(29, "none", x.feed(1, 1, 1, 1, 1, 1), FULL);
        due(36, "bytes", x.count(2), 60);
        due(30, "a fault", x.text(), -100);
        due(30, "the tape is empty", x.count(2), 0);
        due(30, "in order", text(x, "fly0 1 0 10;fly 1 0 14 22\n;must 0 1"), 3);
        due(30, "flown", x.pairing(3, 0), 37);
        due(30, "marked", x.mark(0, 1, 1), 1);
        due(30, "not", text(x, "not 0 1"), 1);
        due(30, "marked", x.mark(0, 1, 2), 2);
        due(30, "free", text(x, "free 0 1"), 1);
        due(30, "marked", x.count(1), 0);
        due(30, "kind, base, fee", text(x, "kind 1 5 9;base 007;fee 3 99"), 3);
        due(30, "kind", x.kind(1, 0, 0), 59);
        due(30, "base", x.base(1), 7);
        due(30, "fee", x.fee(3, 20), 99);
        due(30, "refused ones aren't counted", text(x, "base 16;must 0 0;fly 0 0 1 2;fee 5 0;base 3"), 1);
    }

    private static void faults() {
        String[] texts = {"", " ", "x", "fly", "fly 0 1 2", "fly 0 1 2 ", "fly 0 1 2 3 4", "base 1;", "base 1; ",
            ";base 1", "base 1;;base 1", "base 1000", "base 1 base", "base 1 1000", "base;", "base 1,2", "BASE 1",
            "bas 1", "basee 1", "base -1", "base 1\t", "1 base", "fly 0 1 2 base", "base 1 ; fee 1", "mustnot 1 2",
            "must 1 2 not 1 2", "base 1;x", "base 1;fee 1 2000;y", "base 0001",
            "basez 1", "base", "base 1 123", "base 1;fee 1 2 3"};
        int[] places = {0, 1, 0, 3, 9, 10, 12, 7, 8, 0, 7, 5, 7, 7, 4, 6, 0, 0, 0, 5, 6, 0, 10, 14, 0, 9, 7, 13, 5, 0, 4, 7, 15};
        CrewPairings x = new CrewPairings();
        for (int i = 0; i < texts.length; i++) {
            due(30, "'" + texts[i] + "'", text(x, texts[i]), -100 - places[i]);
            due(30, "the tape is empty", x.count(2), 0);
        }
        due(30, "what stood there before is gone", text(x, "base 12"), 1);
        due(30, "what stood there before is gone", text(x, "base 1"), 1);
        due(30, "what stood there before is gone", x.count(5), 1);
        due(30, "by a fault nothing is done", text(x, "base 9;base"), -111);
        due(30, "by a fault nothing is done", x.count(5), 1);
    }

    private static void toldCovers() {
        CrewPairings x = six();
        row(x, 1, 1, 48, 3, 12);
        due(31, "none is wrong", x.tells(1, 0), NONE);
        due(31, "total", x.tells(1, 1), 109);
        due(31, "along", x.tells(1, 2), 0);
        row(x, 1, 0, 48, 1, 2, 12);
        due(31, "total", x.tells(1, 1), 33 + 57 + 57 + 39);
        due(31, "along", x.tells(1, 2), 2);
        row(x, 1, 0, 3, 2, 0);
        due(31, "one ahead has it", x.tells(1, 0), 1);
        due(31, "no cover", x.tells(1, 1), NONE);
        row(x, 1, 0, 3, 0);
        due(31, "no set", x.tells(1, 0), 1);
        row(x, 1, 0, 3, 64);
        due(31, "no set", x.tells(1, 0), 1);
        row(x, 1, 0, Long.MIN_VALUE | 3);
        due(31, "no set", x.tells(1, 0), 0);
        row(x, 1, 0, 3, 15);
        due(31, "not had", x.tells(1, 0), 1);
        row(x, 1, 0, 3, 12);
        due(31, "not all", x.tells(1, 0), NONE);
        due(31, "not all", x.tells(1, 1), NONE);
        due(31, "not all", x.tells(1, 2), NONE);
        row(x, 1, 0, 1, 2, 4, 8, 16, 32, 32);
        due(31, "seven", x.tells(1, 0), 6);
        due(31, "what", x.tells(1, 3), BAD);
        due(31, "what below", x.tells(1, -1), BAD);
        x.sheet(1, 0, 8);
        due(31, "more than seven", x.tells(1, 0), BAD);
        due(31, "missing", x.tells(2, 0), MISSING);
        due(31, "sheet", x.tells(4, 0), BAD);
        x.sheet(0, 1, 5);
        due(32, "film", x.film(0), 3);
        due(32, "sets", x.item(0, 1), 12);
        due(32, "no more", x.item(0, 3), NO);
        x.put(0, 0, 1L << 40);
        due(32, "longs", x.item(0, 0), 1L << 40);
        due(32, "sheet", x.film(4), BAD);
        due(32, "sheet below", x.film(-1), BAD);
        x = lonely();
        row(x, 0, 1, 5);
        due(32, "no cover", x.film(0), NONE);
        due(32, "it stays", x.item(0, 0), 5);
    }

    private static void loads() {
        CrewPairings x = new CrewPairings();
        row(x, 0, 0, 9, 0, 1, 0, (1L << 32) + 10, 1, 1, 2, 3, 1, 0, 14, 22, 1, 2);
        due(33, "two of three are good", x.load(0, 0, 1, 3), 2);
        due(33, "lowest 32 bits", x.of(0, 3), 10);
        due(33, "the last", x.of(1, 2), 14);
        due(33, "past the end", x.load(0, 0, 9, 2), OUTSIDE);
        due(33, "what stood ahead came", x.count(0), 3);
        due(33, "from below", x.load(0, 0, -1, 1), OUTSIDE);
        due(33, "from far", x.load(0, 0, HIGH, 7), OUTSIDE);
        due(33, "from far below", x.load(0, 0, LOW, 7), OUTSIDE);
        due(33, "none asked", x.load(0, 0, 0, 0), 0);
        due(33, "another sort", x.load(0, 1, 0, 1), UNLIKE);
        due(33, "missing", x.load(1, 1, 0, 1), MISSING);
        due(33, "sheet", x.load(4, 0, 0, 1), BAD);
        due(33, "sort", x.load(0, 2, 0, 1), BAD);
        due(33, "sort below", x.load(0, -1, 0, 1), BAD);
        due(33, "n", x.load(0, 0, 0, 8), BAD);
        due(33, "n below", x.load(0, 0, 0, -1), BAD);
        row(x, 2, 1, 0, 1, 5, 6, 0, 1, 5, 6, 0, 1, 5, 6, 0, 1, 5, 6, 0, 1, 5, 6);
        due(33, "full ones are left out", x.load(2, 1, 0, 5), 4);
        due(33, "seven", x.count(0), 7);
    }

    private static void images() {
        CrewPairings x = two();
        x.mark(0, 1, 1);
        due(34, "image", x.image(), 2);
        x.fly(0, 2, 50, 60);
        x.shift(0, 1, 9);
        x.mark(0, 1, 2);
        x.mark(2, 0, 1);
        x.kind(1, 2, 3);
        x.base(6);
        x.fee(0, 50);
        x.sheet(0, 0, 1);
        x.feed(1, 'a', 0, 0, 0, 0);
        due(35, "back", x.back(), 2);
        due(35, "times", x.of(0, 2), 0);
        due(35, "marks", x.count(1), 1);
        due(35, "mark", x.mark(0, 1, 1), 1);
        due(35, "kind", x.told(1, 0), 0);
        due(35, "bases", x.count(5), 1);
        due(35, "fee", x.count(10), 10);
        due(35, "cost", x.pairing(3, 0), 37);
        due(35, "sheets stay", x.item(0, 0), 0);
        due(35, "the tape stays", x.count(2), 1);
        x.drop();
        x.drop();
        due(35, "once more", x.back(), 2);
        due(35, "cost", x.best(0), 37);
        due(35, "there is none", new CrewPairings().back(), STATE);
    }

    private static void counts() {
        CrewPairings x = six();
        due(36, "flights", x.count(0), 6);
        // who follows whom: 0-1, 0-3, 1-2, 1-4, 2-3, 3-4, 4-5
        due(36, "follow", x.count(3), 7);
        x = two();
        due(36, "had", x.count(4), 3);
        for (int what : new int[] {-1, 6, 9, 15, LOW, HIGH}) {
            due(36, "what", x.count(what), BAD);
        }
    }

    /** Two flights of which the second has just been shifted out of reach, or back into it. */
    private static CrewPairings shifted(boolean reach) {
        CrewPairings x = two();
        row(x, 0, 0, 0, 0);
        row(x, 1, 0, 3);
        if (reach) x.shift(1, 12, 22);
        x.tree(0);
        x.price(0, 0);
        x.shift(1, reach ? 14 : 12, 22);
        return x;
    }

    private static void afterChange() {
        for (int i = 0; i < 2; i++) {
            boolean reach = i == 1;
            due(4, "after a change", shifted(reach).of(0, 4), reach ? 2 : 0);
            due(12, "after a change", shifted(reach).follows(0, 1), i);
            due(13, "after a change", shifted(reach).pairing(3, 0), reach ? 37 : NONE);
            due(14, "after a change", shifted(reach).pairings(-1), i);
            due(15, "after a change", shifted(reach).had(3, 0), reach ? 37 : NONE);
            due(16, "after a change", shifted(reach).best(0), reach ? 37 : NONE);
            due(17, "after a change", shifted(reach).bestOf(0, 0), reach ? 3 : NONE);
            due(18, "after a change", shifted(reach).bound(0), reach ? 37 : NO);
            due(19, "after a change", shifted(reach).price(0, 0), reach ? 37 : NO);
            due(20, "after a change", shifted(reach).branch(0, 1, 1, 0), reach ? 37 : NO);
            due(21, "after a change", shifted(reach).tree(1), 1 - i);
            due(22, "after a change", shifted(reach).proves(0, 1, 1), 0);
            due(23, "after a change", shifted(reach).labels(0, 0), 1 + i);
            due(24, "after a change", shifted(reach).way(0), reach ? 37 : NO);
            due(25, "after a change", shifted(reach).late(0, 9, 1), reach ? 17 : STATE);
            due(26, "after a change", shifted(reach).worst(9), reach ? 0 : STATE);
            due(27, "after a change", shifted(reach).drawn(1, 1), reach ? 0 : STATE);
            due(28, "after a change", shifted(reach).chance(1, 1, 1, 1, 0), reach ? 1 : STATE);
            due(31, "after a change", shifted(reach).tells(1, 1), reach ? 37 : NONE);
            due(32, "after a change", shifted(reach).film(2), reach ? 1 : NONE);
            due(36, "after a change", shifted(reach).count(3), i);
        }
    }

    private static void sheetsOfHost() {
        CrewPairings x = new CrewPairings();
        due(37, "longs", x.sheet(0, 0, 40), 1);
        due(37, "too long", x.sheet(0, 0, 41), BAD);
        due(37, "below", x.sheet(0, 0, -1), SIZE);
        due(37, "least", x.sheet(0, 1, LOW), SIZE);
        due(37, "sort", x.sheet(0, 2, 1), BAD);
        due(37, "sort below", x.sheet(0, -2, 1), BAD);
        due(37, "sheet", x.sheet(4, 0, 1), BAD);
        due(37, "sheet below", x.sheet(-1, 0, 1), BAD);
        due(38, "put", x.put(0, 39, Long.MIN_VALUE + 1), 1);
        due(39, "item", x.item(0, 39), Long.MIN_VALUE + 1);
        due(38, "outside", x.put(0, 40, 1), OUTSIDE);
        due(38, "outside below", x.put(0, -1, 1), OUTSIDE);
        due(38, "sheet", x.put(4, 0, 1), BAD);
        due(38, "missing", x.put(1, 0, 1), MISSING);
        due(39, "outside", x.item(0, 40), NO);
        due(39, "outside below", x.item(0, -1), NO);
        due(39, "sheet", x.item(-1, 0), NO);
        due(39, "missing", x.item(1, 0), NO);
        due(37, "ints", x.sheet(0, 1, 3), 1);
        due(37, "all 0", x.item(0, 2), 0);
        due(38, "lowest 32 bits", x.put(0, 2, 0x1_8000_0000L), 1);
        due(39, "an int", x.item(0, 2), LOW);
        x.put(0, 0, 7);
        due(37, "anew", x.sheet(0, 1, 40), 1);
        due(37, "all 0", x.item(0, 0), 0);
        due(37, "all 0", x.item(0, 2), 0);
        due(37, "all 0", x.item(0, 39), 0);
        due(37, "missing, n doesn't matter", x.sheet(0, -1, -77), 1);
        due(37, "missing, n doesn't matter", x.sheet(0, -1, 77), 1);
        due(38, "missing", x.put(0, 0, 1), MISSING);
    }

    private static void copies() {
        CrewPairings x = new CrewPairings();
        row(x, 0, 0, 1, 2, 3, 4, 5);
        row(x, 1, 0, 9, 9, 9);
        x.sheet(2, 1, 5);
        due(40, "copy", x.copy(0, 3, 1, 1, 2), 2);
        due(40, "came", x.item(1, 2), 5);
        due(40, "stays", x.item(1, 0), 9);
        due(40, "over itself, as they were", x.copy(0, 0, 0, 1, 4), 4);
        due(40, "came", x.item(0, 4), 4);
        due(40, "came", x.item(0, 1), 1);
        due(40, "over itself backwards", x.copy(0, 1, 0, 0, 4), 4);
        due(40, "came", x.item(0, 3), 4);
        due(40, "none at the end", x.copy(0, 5, 1, 3, 0), 0);
        int[][] outside = {{6, 0, 0}, {0, 4, 0}, {-1, 0, 0}, {0, -1, 0}, {0, 0, -1}, {3, 0, 3}, {0, 1, 3}, {0, 0, 4},
            {HIGH, 0, HIGH}, {1, 1, HIGH}, {LOW, 0, 1}, {0, 0, LOW}};
        for (int[] o : outside) {
            due(40, "outside", x.copy(0, o[0], 1, o[1], o[2]), OUTSIDE);
        }
        due(40, "unlike", x.copy(0, 0, 2, 0, 1), UNLIKE);
        due(40, "unlike ahead of outside", x.copy(0, 0, 2, 0, -1), UNLIKE);
        due(40, "missing", x.copy(0, 0, 3, 0, 1), MISSING);
        due(40, "missing", x.copy(3, 0, 2, 0, 1), MISSING);
        due(40, "sheet", x.copy(4, 0, 3, 0, 1), BAD);
        due(40, "other", x.copy(3, 0, -1, 0, 1), BAD);
    }

    public static void main(String[] args) {
        newObject();
        flyAndDrop();
        ofFlight();
        shiftFlight();
        kinds();
        takenFor();
        basesFeesMarks();
        followsBy();
        pairingsOfSix();
        marksOfPairings();
        dutiesAndSpans();
        hadBy();
        bestCover();
        boundsAndPrices();
        branchAndTree();
        provesPrices();
        labelsAndWays();
        delays();
        draws();
        tape();
        faults();
        toldCovers();
        loads();
        images();
        counts();
        afterChange();
        sheetsOfHost();
        copies();
        System.out.println(asked + " answers asked, " + wrong + " not as due");
        if (wrong != 0) System.exit(1);
    }
}
