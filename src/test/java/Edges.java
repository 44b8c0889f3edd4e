import java.util.function.Consumer;
import java.util.function.ToIntFunction;

/** Calls at the edges of their numbers, each on a new object that was made ready in one way. */
final class Edges {
    /** A call whose one number is drawn along its edges. */
    interface Numbered {
        int call(NamedFabric x, int number);
    }

    private final Consumer<NamedFabric> made;

    Edges(Consumer<NamedFabric> made) {
        this.made = made;
    }

    void is(String call, ToIntFunction<NamedFabric> does, int want) {
        Due.is(call, does.applyAsInt(Due.fresh(made)), want);
    }

    void refused(String call, ToIntFunction<NamedFabric> does, int want) {
        Due.refused(made, call, does, want);
    }

    /** What is due at the least number and at the most; beyond these, as far as ints go, BAD. */
    void of(String call, Numbered does, int least, int atLeast, int most, int atMost) {
        is(named(call, least), x -> does.call(x, least), atLeast);
        is(named(call, most), x -> does.call(x, most), atMost);
        bad(call, does, least - 1, most + 1, Integer.MIN_VALUE, Integer.MAX_VALUE);
    }

    void bad(String call, Numbered does, int... numbers) {
        for (int number : numbers) {
            refused(named(call, number), x -> does.call(x, number), NamedFabric.BAD);
        }
    }

    private static String named(String call, int number) {
        return call.replace("?", String.valueOf(number));
    }
}
