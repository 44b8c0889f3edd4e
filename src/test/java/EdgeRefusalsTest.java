/**
 * "Refused, and nothing changes, the first of these that is so: BAD .., STATE (as told), FULL.": where two would
 * be so, the first; each STATE and FULL that a promise names; nothing changes, what may be UNDONE and NOTICES too.
 */
final class EdgeRefusalsTest {
    private static final int BAD = NamedFabric.BAD, STATE = NamedFabric.STATE;
    private static final int FULL = NamedFabric.FULL, NONE = NamedFabric.NONE;
    private static final String GOOD = "s1 1 1;", FAULTY = "s1 1 1;s2 1 1;";

    public static void main(String[] args) {
        // One more that is remembered shows where two are known, one that is lost where five are.
        Edges few = new Edges(EdgeRefusalsTest::few);
        Edges five = new Edges(EdgeRefusalsTest::five);
        badAheadOfState(few);
        badAheadOfState(five);
        states(few);
        states(five);
        badAheadOfFull();
        fullTexts();
        fullOfWhatWasSeen();
        noneToUndo();
        noneKept();
        faultyTexts();
        Due.end();
    }

    /** 0 and 1 of one fabric, 2 clashed with 1; zone 1 is 3; host 3 is nowhere; two calls known. */
    private static void few(NamedFabric x) {
        five(x);
        x.undo();
        x.undo();
        x.undo();
    }

    private static void five(NamedFabric x) {
        Due.tells(x, "s5 10 1;s5 20 2;s4 30 2;h0;h1;h2;h-;");
        x.joins(1, 2);
        x.joins(0, 1);
        x.zones(0, 1, 3);
        x.keep(1);
        x.moves(2, 1);
        x.ranks(2, 3);
        x.moves(2, 0);
        x.sees(0, 1, 0);
        Due.type(x, GOOD);
    }

    // "the first of these that is so: BAD .., STATE"
    private static void badAheadOfState(Edges e) {
        e.refused("zones(0, 4, 0): no such zone", x -> x.zones(0, 4, 0), BAD);
        e.refused("zones(0, -1, 0): no such zone", x -> x.zones(0, -1, 0), BAD);
        e.refused("zones(3, 1, 0): no such switch", x -> x.zones(3, 1, 0), BAD);
        e.refused("zones(0, 1, 3 and no host)", x -> x.zones(0, 1, 3 | 16), BAD);
        e.refused("moves(4, NONE): no such host", x -> x.moves(4, NONE), BAD);
        e.refused("moves(3, -1): nowhere is NONE alone", x -> x.moves(3, -1), BAD);
        e.refused("ranks(3, 5): no such switch", x -> x.ranks(3, 5), BAD);
        e.refused("ranks(0, 0)", x -> x.ranks(0, 0), BAD);
        e.refused("ranks(0, 10)", x -> x.ranks(0, 10), BAD);
        e.refused("allows(2): it is not on", x -> x.allows(2), BAD);
        e.refused("allows(-1): it is off", x -> x.allows(-1), BAD);
        e.refused("joins(0, 0): alike", x -> x.joins(0, 0), BAD);
        e.refused("cuts(0, 0): no link", x -> x.cuts(0, 0), BAD);
        e.refused("cuts(0, 3): no link", x -> x.cuts(0, 3), BAD);
        e.refused("would(1, 1): alike", x -> x.would(1, 1), BAD);
        e.refused("back(2): none kept", x -> x.back(2), BAD);
        e.refused("back(-1): none kept", x -> x.back(-1), BAD);
    }

    // "STATE (as told)": it is UP, there is no LINK, it is that, it is there, it is so
    private static void states(Edges e) {
        e.refused("joins(0, 1): up", x -> x.joins(0, 1), STATE);
        e.refused("joins(1, 0): up", x -> x.joins(1, 0), STATE);
        e.refused("would(0, 1): up", x -> x.would(0, 1), STATE);
        e.refused("would(1, 0): up", x -> x.would(1, 0), STATE);
        e.refused("cuts(0, 2): no link", x -> x.cuts(0, 2), STATE);
        e.refused("cuts(2, 0): no link", x -> x.cuts(2, 0), STATE);
        e.refused("zones(0, 0, 0): empty already", x -> x.zones(0, 0, 0), STATE);
        e.refused("zones(2, 3, 0): empty already", x -> x.zones(2, 3, 0), STATE);
        e.refused("moves(3, NONE): nowhere already", x -> x.moves(3, NONE), STATE);
        e.refused("moves(0, 0): there already", x -> x.moves(0, 0), STATE);
        e.refused("ranks(0, 5): that already", x -> x.ranks(0, 5), STATE);
        e.refused("allows(0): off already", x -> x.allows(0), STATE);
        e.refused("back(0): never kept", x -> x.back(0), STATE);
        Edges clashed = new Edges(EdgeRefusalsTest::five);
        clashed.is("joins(1, 2): clashed is not up", x -> x.joins(1, 2), 0);
        clashed.is("would(2, 1): clashed is not up", x -> x.would(2, 1), 3);
        clashed.is("cuts(2, 1): clashed is a link", x -> x.cuts(2, 1), 2);
        Edges on = new Edges(x -> {
            five(x);
            x.allows(1);
            x.zones(2, 3, 15);
        });
        on.refused("allows(1): on already", x -> x.allows(1), STATE);
        on.refused("zones(2, 3, 15): full already", x -> x.zones(2, 3, 15), STATE);
        on.refused("allows(2): on", x -> x.allows(2), BAD);
        on.refused("zones(1, 1, 3) by another switch", x -> x.zones(1, 1, 3), STATE);
    }

    private static Edges typed(int letters) {
        return new Edges(x -> {
            five(x);
            x.clear();
            Due.type(x, GOOD + " ".repeat(letters - GOOD.length()));
        });
    }

    // "the first of these that is so: BAD .., FULL"
    private static void badAheadOfFull() {
        Edges full = typed(100);
        full.bad("type(?) when full", (x, n) -> x.type(n), -1, 256, NONE, Integer.MIN_VALUE, Integer.MAX_VALUE);
        Edges seen = new Edges(EdgeRefusalsTest::sixSeen);
        seen.bad("sees(?, 1, 1) when full", (x, n) -> x.sees(n, 1, 1), -1, 1, 8, Integer.MIN_VALUE, Integer.MAX_VALUE);
        seen.bad("sees(1, ?, 1) when full", (x, n) -> x.sees(1, n, 1), -1, 1, 8, Integer.MIN_VALUE, Integer.MAX_VALUE);
        seen.bad("sees(0, 1, ?) when full", (x, n) -> x.sees(0, 1, n), -1, 2, Integer.MIN_VALUE, Integer.MAX_VALUE);
    }

    // "FULL: 100"
    private static void fullTexts() {
        typed(98).is("type(32) as letter 99", x -> x.type(32), 99);
        typed(99).is("type(32) as letter 100", x -> x.type(32), 100);
        typed(99).is("type(0) as letter 100", x -> x.type(0), 100);
        typed(99).is("type(255) as letter 100", x -> x.type(255), 100);
        Edges full = typed(100);
        for (int letter : new int[] {0, 32, ';', 255}) {
            full.refused("type(" + letter + ") as letter 101", x -> x.type(letter), FULL);
        }
        full.is("clear() of 100", x -> x.clear(), 100);
        full.is("tells() of 100", x -> x.tells(), 1);
        full.is("type(32) behind clear()", x -> x.clear() - x.type(32), 99);
        full.is("type(32) behind tells()", x -> x.tells() - x.type(32), 0);
    }

    private static void sixSeen(NamedFabric x) {
        five(x);
        for (int i = 0; i < 5; i++) {
            x.sees(0, 1, 0);
        }
    }

    // "SEEN (6 at most)", "FULL: 6"
    private static void fullOfWhatWasSeen() {
        Edges seen = new Edges(EdgeRefusalsTest::sixSeen);
        seen.is("count(8)", x -> x.count(8), 6);
        seen.is("which(0)", x -> x.which(0), 1);
        seen.refused("sees(0, 1, 1) as the seventh", x -> x.sees(0, 1, 1), FULL);
        seen.refused("sees(0, 1, 0) as the seventh", x -> x.sees(0, 1, 0), FULL);
        seen.refused("sees(6, 7, 0) as the seventh", x -> x.sees(6, 7, 0), FULL);
        seen.is("sees() behind forget()", x -> 10 * x.forget() + x.sees(0, 1, 1), 61);
    }

    // "STATE: none."
    private static void noneToUndo() {
        new Edges(x -> { }).refused("undo() at first", x -> x.undo(), STATE);
        new Edges(x -> x.type('s')).refused("undo() behind type()", x -> x.undo(), STATE);
        new Edges(x -> {
            x.keep(0);
            x.sees(0, 1, 0);
            x.joins(0, 1);
            x.allows(0);
        }).refused("undo() of what is not done", x -> x.undo(), STATE);
        new Edges(x -> {
            five(x);
            for (int i = 0; i < 5; i++) {
                x.undo();
            }
        }).refused("undo() a sixth time", x -> x.undo(), STATE);
        new Edges(x -> {
            five(x);
            x.back(1);
        }).refused("undo() behind back()", x -> x.undo(), STATE);
    }

    // "STATE: none was kept."
    private static void noneKept() {
        for (int image = 0; image < 2; image++) {
            int kept = image;
            Edges one = new Edges(x -> {
                five(x);
                Due.tells(x, GOOD);
                x.keep(kept);
                x.ranks(0, 2);
            });
            one.is("back(" + kept + ")", x -> x.back(kept), 1);
            one.refused("back(" + (1 - kept) + "): the other was kept", x -> x.back(1 - kept), STATE);
        }
        Edges told = new Edges(x -> {
            five(x);
            x.keep(0);
            x.keep(1);
            Due.tells(x, GOOD);
        });
        told.refused("back(0) behind a text told", x -> x.back(0), STATE);
        told.refused("back(1) behind a text told", x -> x.back(1), STATE);
    }

    // "-10 less FAULT: nothing changes (THE TEXT stays, too)."
    private static void faultyTexts() {
        String[] texts = {"", " ", "x", FAULTY, "s1 1 1;h0", "s1 1 1;s1 2 2;h0;h1;h2;", "h0;"};
        int[] places = {0, 1, 0, 10, 9, 21, 0};
        for (int i = 0; i < texts.length; i++) {
            String text = texts[i];
            Edges e = new Edges(x -> {
                five(x);
                x.keep(0);
                x.clear();
                Due.type(x, text);
            });
            e.refused("tells() of '" + text + "'", x -> x.tells(), -10 - places[i]);
            e.is("letters behind '" + text + "'", x -> 1000 * x.tells() + x.count(9), 1000 * (-10 - places[i]) + text.length());
        }
    }
}
