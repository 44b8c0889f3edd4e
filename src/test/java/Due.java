import java.util.function.Consumer;
import java.util.function.ToIntFunction;

/** What the tests of the project share: answers that are due, texts told, all that can be seen of an object. */
final class Due {
    private static int wrong = 0;

    private Due() {
    }

    static void is(String call, long got, long want) {
        if (got != want) {
            wrong++;
            System.out.println(call + " answered " + got + ", due is " + want);
        }
    }

    static void same(String what, String got, String want) {
        if (!got.equals(want)) {
            wrong++;
            System.out.println(what + ": is\n  " + got + "\ndue is\n  " + want);
        }
    }

    static void so(String what, boolean is) {
        if (!is) {
            wrong++;
            System.out.println(what);
        }
    }

    /** Ends the test: exit code 1 if an answer was wrong. */
    static void end() {
        System.out.println(wrong == 0 ? "all answers are as due" : wrong + " answers are not as due");
        if (wrong != 0) {
            System.exit(1);
        }
    }

    static void type(NamedFabric x, String text) {
        for (int i = 0; i < text.length(); i++) {
            x.type(text.charAt(i));
        }
    }

    static int tells(NamedFabric x, String text) {
        x.clear();
        type(x, text);
        return x.tells();
    }

    static NamedFabric told(String text) {
        NamedFabric x = new NamedFabric();
        so("not told: " + text, tells(x, text) > 0);
        return x;
    }

    /** A call is refused with an answer, and nothing changes: not what can be seen, not what can be undone. */
    static void refused(Consumer<NamedFabric> made, String call, ToIntFunction<NamedFabric> does, int want) {
        NamedFabric without = new NamedFabric();
        made.accept(without);
        NamedFabric with = new NamedFabric();
        made.accept(with);
        is(call, does.applyAsInt(with), want);
        same("behind " + call, all(with), all(without));
        for (int i = 0; i < 2; i++) {
            is("undo() behind " + call, with.undo(), without.undo());
            same("undone behind " + call, asItIs(with), asItIs(without));
        }
        for (int image = 0; image < 2; image++) {
            is("back() behind " + call, with.back(image), without.back(image));
            same("back behind " + call, asItIs(with), asItIs(without));
        }
    }

    /** All that queries answer. */
    static String all(NamedFabric x) {
        StringBuilder said = new StringBuilder(asItIs(x));
        for (int what = 0; what < 2; what++) {
            said.append(" weakest ").append(x.weakest(what)).append(" which ").append(x.which(what));
        }
        said.append(" ask ").append(x.ask());
        for (int what = 8; what < 11; what++) {
            said.append(" count ").append(x.count(what));
        }
        return said.toString();
    }

    /** What parts 1 and 2 tell, but for the text. */
    static String asItIs(NamedFabric x) {
        StringBuilder said = new StringBuilder();
        for (int what = 0; what < 8; what++) {
            said.append(x.count(what)).append(' ');
        }
        int switches = x.count(0);
        for (int a = 0; a < switches; a++) {
            said.append("| s");
            for (int what = 0; what < 7; what++) {
                said.append(' ').append(x.device(a, what));
            }
            for (int z = 0; z < 4; z++) {
                said.append(' ').append(x.zone(a, z));
            }
            for (int b = a + 1; b < switches; b++) {
                said.append(' ').append(x.link(a, b));
            }
        }
        for (int h = 0; h < x.count(1); h++) {
            said.append("| h");
            for (int what = 0; what < 4; what++) {
                said.append(' ').append(x.host(h, what));
            }
        }
        return said.toString();
    }
}
