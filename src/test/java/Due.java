import java.util.function.Consumer;
import java.util.function.Function;
import java.util.function.ToIntFunction;

/** What the tests of the project share: answers that are due, texts told, all that can be seen of an object. */
final class Due {
    private static int wrong = 0;

    private Due() {
    }

    static void is(String call, long got, long want) {
        if (got != want) {
            wrong++;
            System.out.println(call + " answered " + got + ", due is " + want);
        }
    }

    static void same(String what, String got, String want) {
        if (!got.equals(want)) {
            wrong++;
            System.out.println(what + ": is\n  " + got + "\ndue is\n  " + want);
        }
    }

    static void so(String what, boolean is) {
        if (!is) {
            wrong++;
            System.out.println(what);
        }
    }

    /** Ends the test: exit code 1 if an answer was wrong. */
    static void end() {
        System.out.println(wrong == 0 ? "all answers are as due" : wrong + " answers are not as due");
        if (wrong != 0) {
            System.exit(1);
        }
    }

    static void type(NamedFabric x, String text) {
        for (int i = 0; i < text.length(); i++) {
            x.type(text.charAt(i));
        }
    }

    static int tells(NamedFabric x, String text) {
        x.clear();
        type(x, text);
        return x.tells();
    }

    static NamedFabric told(String text) {
        NamedFabric x = new NamedFabric();
        so("not told: " + text, tells(x, text) > 0);
        return x;
    }

    static NamedFabric fresh(Consumer<NamedFabric> made) {
        NamedFabric x = new NamedFabric();
        made.accept(x);
        return x;
    }

    /** A call answers so, and nothing changes: not what can be seen, undone, gone back to or told. */
    static void refused(Consumer<NamedFabric> made, String call, ToIntFunction<NamedFabric> does, int want) {
        is(call, does.applyAsInt(fresh(made)), want);
        Consumer<NamedFabric> with = made.andThen(x -> does.applyAsInt(x));
        unchanged(made, with, "behind " + call, Due::all);
        for (int times = 1; times <= 6; times++) {
            int undone = times;
            unchanged(made, with, undone + " times undone behind " + call, x -> undone(x, undone));
        }
        for (int image = 0; image < 2; image++) {
            int kept = image;
            unchanged(made, with, "back(" + kept + ") behind " + call, x -> x.back(kept) + ": " + all(x));
        }
        unchanged(made, with, "tells() behind " + call, x -> x.tells() + ": " + all(x));
    }

    /** Each probe has objects of its own, so that none is used for more than 512 calls. */
    private static void unchanged(Consumer<NamedFabric> made, Consumer<NamedFabric> with, String what,
            Function<NamedFabric, String> probe) {
        same(what, probe.apply(fresh(with)), probe.apply(fresh(made)));
    }

    private static String undone(NamedFabric x, int times) {
        StringBuilder said = new StringBuilder();
        for (int i = 0; i < times; i++) {
            said.append(x.undo()).append(' ');
        }
        return said.append(all(x)).toString();
    }

    /** All that queries answer. */
    static String all(NamedFabric x) {
        StringBuilder said = new StringBuilder(asItIs(x));
        for (int what = 0; what < 2; what++) {
            said.append(" weakest ").append(x.weakest(what)).append(" which ").append(x.which(what));
        }
        said.append(" ask ").append(x.ask());
        for (int what = 8; what < 11; what++) {
            said.append(" count ").append(x.count(what));
        }
        return said.toString();
    }

    /** What parts 1 and 2 tell, but for the text. */
    static String asItIs(NamedFabric x) {
        StringBuilder said = new StringBuilder();
        for (int what = 0; what < 8; what++) {
            said.append(x.count(what)).append(' ');
        }
        int switches = x.count(0);
        for (int a = 0; a < switches; a++) {
            said.append("| s");
            for (int what = 0; what < 8; what++) {
                said.append(' ').append(x.device(a, what));
            }
            for (int z = 0; z < 4; z++) {
                said.append(' ').append(x.zone(a, z));
            }
            for (int b = a + 1; b < switches; b++) {
                said.append(' ').append(x.link(a, b));
            }
        }
        for (int h = 0; h < x.count(1); h++) {
            said.append("| h");
            for (int what = 0; what < 4; what++) {
                said.append(' ').append(x.host(h, what));
            }
        }
        return said.toString();
    }
}
