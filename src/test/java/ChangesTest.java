import java.util.List;
import java.util.function.Consumer;

/** What was asked ahead of a change, or of two, is not told again behind it. */
public final class ChangesTest {
    private static final List<Consumer<CrewPairings>> CHANGES = List.of(
        x -> x.fly(0, 1, 100, 110),
        x -> x.drop(),
        x -> x.shift(3, 41, 50),
        x -> x.shift(2, 24, 34),
        x -> x.kind(0, 2, 9),
        x -> x.base(2),
        x -> x.fee(0, 0),
        x -> x.fee(4, 0),
        x -> x.mark(1, 4, 0),
        x -> x.mark(4, 5, 2),
        x -> x.text(),
        x -> x.load(3, 0, 0, 2),
        x -> x.film(0),
        x -> x.image(),
        x -> x.back(),
        x -> x.tree(0),
        x -> x.branch(0, 1, 2, 0),
        x -> x.drawn(5, 50));

    private ChangesTest() { }

    public static void main(String[] args) {
        for (Consumer<CrewPairings> one : CHANGES) {
            for (Consumer<CrewPairings> other : CHANGES) {
                Twins.seen(Plans::busy, x -> {
                    one.accept(x);
                    other.accept(x);
                });
            }
        }
        if (Doc.wrongs() != 0) System.exit(1);
        System.out.println(CHANGES.size() * CHANGES.size() + " changes are seen");
    }
}
