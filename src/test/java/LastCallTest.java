import java.util.function.ObjIntConsumer;
import java.util.function.ToIntFunction;

/** "An object is used for at most 512 calls after it has been made": each promise at the last of them. */
final class LastCallTest {
    private static final int BAD = NamedFabric.BAD, STATE = NamedFabric.STATE, NONE = NamedFabric.NONE;
    private static final int CALLS = 512;
    private static final String TEXT = "s5 10 1;s5 20 2;s4 30 2;h0;h1;h2;h-;", NEXT = "s1 1 1;";
    private static final int READY = TEXT.length() + 1 + 3 + 1 + NEXT.length() + 1;

    public static void main(String[] args) {
        last("queries", LastCallTest::query);
        last("refusals", LastCallTest::refusal);
        last("done and undone", LastCallTest::doneAndUndone);
        last("kept again", LastCallTest::keptAgain);
        newObjectBehindRefusals();
        theMostSeenBehindTheMostTyped();
        Due.end();
    }

    /** 0 and 1 of one fabric, 2 clashed with 1; zone 1 is hosts 0 and 1; four calls may be undone. */
    private static NamedFabric ready() {
        NamedFabric x = new NamedFabric();
        Due.type(x, TEXT);
        x.tells();
        x.joins(0, 1);
        x.joins(1, 2);
        x.zones(0, 1, 3);
        x.sees(0, 1, 0);
        Due.type(x, NEXT);
        x.keep(1);
        return x;
    }

    // Each of these leaves all as it was when two calls of it, the even and the odd one, are through.

    private static void query(NamedFabric x, int i) {
        switch (i % 8) {
            case 0: x.count(i % 11); break;
            case 1: x.device(i % 3, i % 8); break;
            case 2: x.host(i % 4, i % 5); break;
            case 3: x.weakest(i % 2); break;
            case 4: x.which(i % 2); break;
            case 5: x.ask(); break;
            case 6: x.would(1, 2); break;
            default: x.zone(i % 3, i % 4);
        }
    }

    private static void refusal(NamedFabric x, int i) {
        switch (i % 9) {
            case 0: x.joins(0, 1); break;
            case 1: x.cuts(0, 2); break;
            case 2: x.zones(0, 1, 3); break;
            case 3: x.moves(3, NONE); break;
            case 4: x.ranks(2, 4); break;
            case 5: x.renews(3); break;
            case 6: x.allows(0); break;
            case 7: x.back(0); break;
            default: x.type(256);
        }
    }

    private static void doneAndUndone(NamedFabric x, int i) {
        if (i % 2 == 1) {
            x.undo();
            return;
        }
        switch (i / 2 % 7) {
            case 0: x.joins(1, 2); break;
            case 1: x.cuts(0, 1); break;
            case 2: x.zones(1, i % 4, 12); break;
            case 3: x.moves(1, 2); break;
            case 4: x.ranks(2, 9); break;
            case 5: x.renews(0); break;
            default: x.allows(1);
        }
    }

    private static void keptAgain(NamedFabric x, int i) {
        x.keep(1);
    }

    private static NamedFabric behind(ObjIntConsumer<NamedFabric> filler) {
        NamedFabric x = ready();
        int left = CALLS - 1 - READY;
        int fill = left - left % 2;
        for (int i = 0; i < fill; i++) {
            filler.accept(x, i);
        }
        for (int i = fill; i < left; i++) {
            x.count(0);
        }
        return x;
    }

    private static void last(String kind, ObjIntConsumer<NamedFabric> filler) {
        for (Call call : CALLS_AND_ANSWERS) {
            Due.is("call 512 behind " + kind + ": " + call.name, call.does.applyAsInt(behind(filler)), call.due);
        }
    }

    private record Call(String name, ToIntFunction<NamedFabric> does, int due) {
    }

    private static final Call[] CALLS_AND_ANSWERS = {
        new Call("type(';')", x -> x.type(';'), 8),
        new Call("type(-1)", x -> x.type(-1), BAD),
        new Call("clear()", x -> x.clear(), 7),
        new Call("tells()", x -> x.tells(), 1),
        new Call("joins(0, 2)", x -> x.joins(0, 2), 0),
        new Call("joins(1, 0)", x -> x.joins(1, 0), STATE),
        new Call("cuts(0, 1)", x -> x.cuts(0, 1), 3),
        new Call("cuts(1, 2)", x -> x.cuts(1, 2), 2),
        new Call("zones(1, 1, 15)", x -> x.zones(1, 1, 15), 3),
        new Call("moves(3, 0)", x -> x.moves(3, 0), NONE),
        new Call("ranks(2, 9)", x -> x.ranks(2, 9), 4),
        new Call("renews(0)", x -> x.renews(0), 0),
        new Call("allows(1)", x -> x.allows(1), 1),
        new Call("undo()", x -> x.undo(), 3),
        new Call("device(1, 3)", x -> x.device(1, 3), 2),
        new Call("device(1, 4)", x -> x.device(1, 4), 0),
        new Call("device(1, 5)", x -> x.device(1, 5), 1),
        new Call("device(1, 6)", x -> x.device(1, 6), 3),
        new Call("link(2, 1)", x -> x.link(2, 1), 2),
        new Call("zone(1, 1)", x -> x.zone(1, 1), 3),
        new Call("host(0, 1)", x -> x.host(0, 1), 2),
        new Call("host(1, 2)", x -> x.host(1, 2), 1),
        new Call("host(1, 3)", x -> x.host(1, 3), 1),
        new Call("would(0, 2)", x -> x.would(0, 2), 3),
        new Call("weakest(0)", x -> x.weakest(0), 1),
        new Call("weakest(1)", x -> x.weakest(1), 1),
        new Call("sees(2, 3, 1)", x -> x.sees(2, 3, 1), 2),
        new Call("forget()", x -> x.forget(), 1),
        new Call("which(0)", x -> x.which(0), 1),
        new Call("which(1)", x -> x.which(1), 1),
        new Call("ask()", x -> x.ask(), NONE),
        new Call("keep(0)", x -> x.keep(0), 2),
        new Call("back(0)", x -> x.back(0), STATE),
        new Call("back(1)", x -> x.back(1), 2),
        new Call("count(6)", x -> x.count(6), 2),
        new Call("count(9)", x -> x.count(9), 7),
        new Call("count(10)", x -> x.count(10), 4),
    };

    private static void newObjectBehindRefusals() {
        int[] counts = {1, 0, 1, 0, 0, 0, 0, 0, 0, 0, 0};
        for (int what = 0; what < counts.length; what++) {
            NamedFabric x = new NamedFabric();
            for (int i = 1; i < CALLS; i++) {
                Due.so("refused", i % 2 == 0 ? x.joins(0, 1) == BAD : x.undo() == STATE);
            }
            Due.is("call 512 of a new object: count(" + what + ")", x.count(what), counts[what]);
        }
    }

    private static void theMostSeenBehindTheMostTyped() {
        NamedFabric x = new NamedFabric();
        for (int i = 1; i <= 505; i++) {
            Due.is("call " + i + ": type(32)", x.type(32), i <= 100 ? i : NamedFabric.FULL);
        }
        for (int i = 1; i <= 7; i++) {
            Due.is("call " + (505 + i) + ": sees(6, 7, 1)", x.sees(6, 7, 1), i <= 6 ? i : NamedFabric.FULL);
        }
    }
}
