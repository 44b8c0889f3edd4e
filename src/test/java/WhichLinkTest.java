/** Promises 19 to 22: sees, forget, which, ask. */
final class WhichLinkTest {
    private static final int BAD = NamedFabric.BAD, FULL = NamedFabric.FULL, NONE = NamedFabric.NONE;

    public static void main(String[] args) {
        seeing();
        wrongSeeing();
        forgetting();
        whichLink();
        whichAsAllIsWhenAsked();
        whichOfHostsThatThereAreNot();
        asking();
        askingOfTooFew();
        Due.end();
    }

    private static NamedFabric row() {
        NamedFabric x = Due.told("s1 1 1;s1 2 2;s1 3 3;s1 4 4;s1 5 5;h0;h1;h2;h3;h4;");
        x.joins(0, 1);
        x.joins(1, 2);
        x.joins(2, 3);
        x.joins(3, 4);
        return x;
    }

    private static void seeing() {
        NamedFabric x = new NamedFabric();
        for (int i = 1; i <= 6; i++) {
            Due.is("sees(0, 7, 1)", x.sees(0, 7, i % 2), i);
            Due.is("count(8)", x.count(8), i);
        }
        Due.is("sees(0, 7, 1) when full", x.sees(0, 7, 1), FULL);
        Due.is("sees(0, 8, 1) when full", x.sees(0, 8, 1), BAD);
        Due.is("count(8)", x.count(8), 6);
        Due.is("count(10)", x.count(10), 0);
    }

    private static void wrongSeeing() {
        int[][] wrong = {{-1, 0, 1}, {0, -1, 1}, {8, 0, 1}, {0, 8, 1}, {3, 3, 0}, {0, 1, 2}, {0, 1, -1}};
        for (int[] w : wrong) {
            Due.refused(x -> x.sees(0, 1, 1), "sees(" + w[0] + ", " + w[1] + ", " + w[2] + ")",
                x -> x.sees(w[0], w[1], w[2]), BAD);
        }
    }

    private static void forgetting() {
        NamedFabric x = row();
        Due.is("forget() of nothing", x.forget(), 0);
        x.sees(0, 1, 0);
        x.sees(6, 7, 1);
        Due.is("which(0)", x.which(0), 0);
        Due.is("forget()", x.forget(), 2);
        Due.is("count(8)", x.count(8), 0);
        Due.is("which(0)", x.which(0), 4);
        Due.is("sees(1, 2, 0)", x.sees(1, 2, 0), 1);
        Due.is("which(1)", x.which(1), 12);
        NamedFabric y = Due.told("s1 1 1;s1 2 2;");
        y.joins(0, 1);
        y.sees(0, 1, 0);
        Due.is("which(0) of hosts that there are not", y.which(0), 0);
        y.forget();
        Due.is("which(0) where that is forgotten", y.which(0), 1);
    }

    private static void whichLink() {
        NamedFabric x = row();
        Due.is("which(0) of nothing seen", x.which(0), 4);
        Due.is("which(1) of nothing seen", x.which(1), 1);
        x.sees(4, 1, 0);
        Due.is("which(0)", x.which(0), 3);
        Due.is("which(1)", x.which(1), 12);
        x.sees(1, 2, 1);
        Due.is("which(0)", x.which(0), 2);
        Due.is("which(1)", x.which(1), 23);
        x.sees(3, 4, 0);
        Due.is("which(0)", x.which(0), 1);
        Due.is("which(1)", x.which(1), 34);
        x.sees(0, 4, 1);
        Due.is("which(0)", x.which(0), 0);
        Due.is("which(1)", x.which(1), NONE);
        Due.is("which(-1)", x.which(-1), BAD);
        Due.is("which(2)", x.which(2), BAD);
        Due.is("link(0, 1)", x.link(0, 1), 1);
        Due.is("count(6) of all but the joins", x.count(6), 2 + 3 + 4 + 5);
    }

    private static void whichAsAllIsWhenAsked() {
        NamedFabric x = row();
        x.sees(0, 1, 0);
        x.sees(2, 1, 1);
        Due.is("which(1)", x.which(1), 1);
        x.joins(0, 4);
        Due.is("which(0) in a ring", x.which(0), 0);
        x.cuts(1, 2);
        x.moves(2, 1);
        Due.is("which(1) with 2 at 1", x.which(1), 1);
        Due.is("which(0) with 2 at 1", x.which(0), 1);
        x.zones(0, 0, 1);
        Due.is("which(0) where zones hide", x.which(0), 0);
    }

    private static void whichOfHostsThatThereAreNot() {
        NamedFabric x = row();
        x.sees(0, 5, 0);
        Due.is("which(0) of host 5", x.which(0), 0);
        Due.is("which(1) of host 5", x.which(1), NONE);
        Due.is("ask() of host 5", x.ask(), NONE);
        x.forget();
        x.sees(7, 0, 0);
        Due.is("which(0) of host 7", x.which(0), 0);
        x.forget();
        x.sees(4, 0, 0);
        Due.is("which(0) of host 4", x.which(0), 4);
    }

    private static void asking() {
        NamedFabric x = row();
        Due.is("ask()", x.ask(), 2);
        x.sees(0, 2, 0);
        Due.is("ask() of two", x.ask(), 1);
        x.sees(1, 0, 1);
        Due.is("ask() of one", x.ask(), NONE);
        x.forget();
        x.sees(0, 2, 1);
        Due.is("ask() of the other two", x.ask(), 3);
        x.forget();
        x.joins(0, 4);
        Due.is("ask() where all are alike", x.ask(), 1);
        x.zones(0, 0, 24);
        Due.is("ask() where zones hide", x.ask(), 1);
        x.cuts(1, 2);
        x.zones(0, 0, 14);
        Due.is("ask() of the twos in a zone", x.ask(), 13);
        x.moves(1, NONE);
        Due.is("ask() where one is nowhere", x.ask(), 23);
    }

    private static void askingOfTooFew() {
        NamedFabric x = Due.told("s1 1 1;s1 2 2;s1 3 3;h0;");
        x.joins(0, 1);
        x.joins(1, 2);
        Due.is("which(0)", x.which(0), 2);
        Due.is("ask() with one host", x.ask(), NONE);
        NamedFabric y = Due.told("s1 1 1;s1 2 2;s1 3 3;h0;h-;");
        Due.is("ask() with no link", y.ask(), NONE);
        y.joins(0, 1);
        Due.is("ask() with one link", y.ask(), NONE);
        y.joins(1, 2);
        Due.is("ask() with two hosts", y.ask(), 1);
    }
}
