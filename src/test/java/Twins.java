import java.util.ArrayList;
import java.util.List;
import java.util.function.Consumer;
import java.util.function.ToLongFunction;

/** Two objects made alike, one of which is asked more: nothing else may tell them apart. */
final class Twins {
    private Twins() { }

    /** The call is refused so, and changes nothing that any other call answers. */
    static void refused(Consumer<CrewPairings> ready, ToLongFunction<CrewPairings> call, long want) {
        CrewPairings asked = warm(ready);
        Doc.due(call.applyAsLong(asked), want);
        alike(asked, made(ready));
    }

    /** The same of an object that is just made: Plans::busy, a state with something of all. */
    static void refused(ToLongFunction<CrewPairings> call, long want) {
        refused(Plans::busy, call, want);
    }

    /** These calls in this state leave all as it would be without them. */
    static void changesNothing(Consumer<CrewPairings> ready, Consumer<CrewPairings> calls) {
        CrewPairings asked = warm(ready);
        calls.accept(asked);
        alike(asked, made(ready));
    }

    /** What is changed so is seen by all other calls, also by those that were asked ahead of it. */
    static void seen(Consumer<CrewPairings> ready, Consumer<CrewPairings> change) {
        CrewPairings asked = warm(ready);
        change.accept(asked);
        CrewPairings other = made(ready);
        change.accept(other);
        alike(asked, other);
    }

    /** Made, and asked what the program may keep for later. */
    private static CrewPairings warm(Consumer<CrewPairings> ready) {
        CrewPairings x = made(ready);
        lookAtCovers(x, new ArrayList<>(), new ArrayList<>());
        x.way(0);
        x.count(3);
        x.tree(0);
        x.price(0, 0);
        return x;
    }

    static CrewPairings made(Consumer<CrewPairings> ready) {
        CrewPairings x = new CrewPairings();
        ready.accept(x);
        return x;
    }

    static void alike(CrewPairings one, CrewPairings other) {
        List<String> calls = new ArrayList<>();
        List<Long> ones = new ArrayList<>();
        List<Long> others = new ArrayList<>();
        look(one, calls, ones);
        look(other, new ArrayList<>(), others);
        int same = 0;
        while (same < Math.min(ones.size(), others.size()) && ones.get(same).equals(others.get(same))) same++;
        if (same < ones.size()) System.out.println("changed, as seen by " + calls.get(same));
        Doc.due(same, Math.max(ones.size(), others.size()));
    }

    /** Some 300 answers; the last of them change the object. */
    private static void look(CrewPairings x, List<String> calls, List<Long> answers) {
        lookAtPlan(x, calls, answers);
        lookAtCovers(x, calls, answers);
        lookAtSheets(x, calls, answers);
        int flights = x.count(0);
        for (int f = 0; f < flights; f++) {
            for (int g = 0; g < flights; g++) {
                if (f != g) note(calls, answers, "mark " + f + " " + g, x.mark(f, g, 0));
            }
        }
        note(calls, answers, "text", x.text());
        lookAtPlan(x, calls, answers);
        note(calls, answers, "back", x.back());
        lookAtPlan(x, calls, answers);
        for (int i = 0; i < 3; i++) {
            note(calls, answers, "mark of the image", x.mark(0, 1, 0));
        }
        note(calls, answers, "best of the image", x.best(0));
    }

    private static void note(List<String> calls, List<Long> answers, String call, long answer) {
        calls.add(call);
        answers.add(answer);
    }

    private static void lookAtPlan(CrewPairings x, List<String> calls, List<Long> answers) {
        for (int what = 0; what < 15; what++) {
            note(calls, answers, "count " + what, x.count(what));
        }
        for (int a = 0; a < 4; a++) {
            note(calls, answers, "told " + a, x.told(a, 0) * 10L + x.told(a, 1));
        }
        for (int f = 0; f < x.count(0); f++) {
            for (int what = 0; what < 4; what++) {
                note(calls, answers, "of " + f + " " + what, x.of(f, what));
            }
        }
    }

    private static void lookAtCovers(CrewPairings x, List<String> calls, List<Long> answers) {
        for (int k = -1; k < 6; k++) {
            note(calls, answers, "pairings " + k, x.pairings(k));
        }
        for (int f = 0; f < x.count(0); f++) {
            note(calls, answers, "had " + f, x.had(1 << f, 0));
            note(calls, answers, "bestOf " + f, x.bestOf(f, 0));
            note(calls, answers, "price " + f, x.price(f, 0));
            note(calls, answers, "late " + f, x.late(f, 40, 1));
            note(calls, answers, "of " + f, x.of(f, 4) + 1000L * x.of(f, 5));
        }
        note(calls, answers, "best", x.best(0));
        note(calls, answers, "bound", x.bound(0));
        note(calls, answers, "branch", x.branch(0, 1, 2, 0));
        note(calls, answers, "tree", x.tree(0));
        note(calls, answers, "drawn", x.drawn(5, 90));
    }

    private static void lookAtSheets(CrewPairings x, List<String> calls, List<Long> answers) {
        for (int sheet = 0; sheet < 4; sheet++) {
            for (int i = 0; i < 9; i++) {
                note(calls, answers, "item " + sheet + " " + i, x.item(sheet, i));
            }
            note(calls, answers, "last item " + sheet, x.item(sheet, 39));
            note(calls, answers, "way " + sheet, x.way(sheet));
            // of ints only the lowest bits come back: this tells the sort
            note(calls, answers, "put " + sheet, x.put(sheet, 0, (1L << 40) + 5));
            note(calls, answers, "sort " + sheet, x.item(sheet, 0));
        }
    }
}
