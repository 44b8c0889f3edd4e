/** The sentences of part 3 that name a boundary case: weakest, what was seen, which, ask, images. */
final class EdgeLinkTest {
    private static final int STATE = NamedFabric.STATE, NONE = NamedFabric.NONE;
    private static final String FIVE = "s1 1 1;s1 2 2;s1 3 3;s1 4 4;s1 5 5;";

    public static void main(String[] args) {
        nothingIsChanged();
        weakestOfSeveral();
        weakestCountsTwosThatAreLost();
        weakestOfNone();
        sixAreSeen();
        nothingIsSeenBehindForget();
        allThatWasSeenIsSo();
        whichOfAll();
        whichOfHostsThatThereAreNot();
        whichAsAllIsWhenAsked();
        askOfSeveral();
        askOfTheLeastGreatest();
        askOfTooFewLinks();
        askOfTooFewHosts();
        imagesKeepPartsOneAndTwo();
        imagesKeepNothingElse();
        imagesStay();
        nothingUndoneBehindBack();
        seenAndImagesGoneBehindAText();
        countsAtTheirMost();
        Due.end();
    }

    private static NamedFabric linked(String text, int... twos) {
        NamedFabric x = Due.told(text);
        for (int two : twos) {
            Due.is("joins of " + two, x.joins(two / 10, two % 10), 1);
        }
        return x;
    }

    // "(Nothing is changed.)"
    private static void nothingIsChanged() {
        Edges e = new Edges(x -> {
            Due.tells(x, FIVE + "h0;h1;h2;h3;h4;");
            x.joins(0, 1);
            x.joins(1, 2);
            x.joins(2, 0);
            x.keep(0);
            x.zones(0, 0, 7);
            x.sees(0, 1, 1);
            Due.type(x, "s1 1 1;");
        });
        e.refused("would(0, 3)", x -> x.would(0, 3), 1);
        e.refused("would(3, 4)", x -> x.would(3, 4), 1);
        e.refused("weakest(0)", x -> x.weakest(0), 1);
        e.refused("weakest(1)", x -> x.weakest(1), 0);
        e.refused("which(0)", x -> x.which(0), 3);
        e.refused("which(1)", x -> x.which(1), 1);
        e.refused("ask()", x -> x.ask(), 1);
    }

    // "of several that of the lowest SWITCH, of these that of the lowest other one"
    private static void weakestOfSeveral() {
        Due.is("the lowest switch", linked(FIVE + "h1;h2;h3;h4;", 34, 21).weakest(0), 12);
        Due.is("the lowest switch is the other's higher", linked(FIVE + "h0;h4;h1;h2;", 12, 40).weakest(0), 4);
        Due.is("the lowest other one", linked(FIVE + "h1;h2;h3;h4;", 14, 31, 12).weakest(0), 12);
        NamedFabric x = linked(FIVE + "h3;h4;h4;h0;h1;", 1, 34);
        Due.is("the most ahead of the lowest", x.weakest(0), 34);
        Due.is("the most", x.weakest(1), 2);
        Due.is("all as little", linked(FIVE, 34, 13, 2).weakest(0), 2);
    }

    // "the most twos of HOSTS SEE one another no more"
    private static void weakestCountsTwosThatAreLost() {
        NamedFabric x = linked(FIVE + "h0;h0;h0;h0;h1;h1;h1;h1;", 1);
        Due.is("four by four", x.weakest(1), 16);
        x.zones(0, 0, 17);
        Due.is("two in a zone", x.weakest(1), 1);
        x.zones(0, 0, 15);
        Due.is("a zone at one end", x.weakest(1), 0);
        x.zones(0, 0, 0);
        x.moves(0, NONE);
        Due.is("three by four", x.weakest(1), 12);
        x.joins(1, 2);
        x.joins(2, 0);
        Due.is("in a ring", x.weakest(1), 0);
        Due.is("the first of a ring", x.weakest(0), 1);
        x.moves(0, 4);
        x.joins(4, 2);
        Due.is("at the end of a link", x.weakest(0), 24);
        Due.is("one by seven", x.weakest(1), 7);
    }

    // "NONE: no LINK is UP."
    private static void weakestOfNone() {
        NamedFabric x = Due.told("s1 1 1;s1 2 1;h0;h1;");
        Due.is("weakest(0) of none", x.weakest(0), NONE);
        Due.is("weakest(1) of none", x.weakest(1), NONE);
        x.joins(0, 1);
        Due.is("weakest(0) of a clashed one", x.weakest(0), NONE);
        Due.is("weakest(1) of a clashed one", x.weakest(1), NONE);
        x.allows(1);
        x.joins(0, 1);
        Due.is("weakest(0) of one", x.weakest(0), 1);
        Due.is("weakest(1) of one", x.weakest(1), 1);
        x.cuts(0, 1);
        Due.is("weakest(0) of one cut", x.weakest(0), NONE);
        NamedFabric y = linked("s1 1 1;s1 2 2;", 1);
        Due.is("weakest(0) without hosts", y.weakest(0), 1);
        Due.is("weakest(1) without hosts", y.weakest(1), 0);
    }

    // "SEEN (6 at most)": each of the six counts
    private static void sixAreSeen() {
        for (int wrong = 0; wrong < 6; wrong++) {
            NamedFabric x = linked("s1 1 1;s1 2 2;h0;h1;h0;h1;", 1);
            for (int i = 0; i < 6; i++) {
                Due.is("sees() " + i, x.sees(i % 2, 3 - i % 2, i == wrong ? 1 : 0), i + 1);
                Due.is("which(0) behind " + i, x.which(0), i < wrong ? 1 : 0);
            }
            Due.is("a seventh", x.sees(0, 1, 0), NamedFabric.FULL);
            Due.is("count(8)", x.count(8), 6);
            Due.is("forget()", x.forget(), 6);
            Due.is("which(0) of nothing", x.which(0), 1);
            Due.is("forget() of nothing", x.forget(), 0);
        }
    }

    // "Nothing is SEEN: how much was."
    private static void nothingIsSeenBehindForget() {
        NamedFabric x = linked("s1 1 1;s1 2 2;s1 3 3;h0;h1;h2;", 1, 12);
        int[][] seen = {{0, 1, 1}, {0, 1, 0}, {1, 0, 1}, {2, 0, 0}, {7, 0, 0}, {0, 7, 1}};
        for (int[] one : seen) {
            Due.is("sees(" + one[0] + ", " + one[1] + ", " + one[2] + ")", x.sees(one[0], one[1], one[2]), 1);
            Due.is("forget()", x.forget(), 1);
            Due.is("which(0) of nothing", x.which(0), 2);
            x.sees(0, 2, 0);
            Due.is("which(0) of two", x.which(0), 2);
            x.sees(1, 2, 1);
            Due.is("which(1) of one", x.which(1), 1);
            Due.is("forget() of two", x.forget(), 2);
        }
        NamedFabric y = linked("s1 1 1;s1 2 2;", 1);
        y.sees(0, 1, 1);
        Due.is("which(0) without hosts", y.which(0), 0);
        y.forget();
        Due.is("which(0) without hosts, of nothing", y.which(0), 1);
    }

    // "by which all that was SEEN would be so"
    private static void allThatWasSeenIsSo() {
        int[][] seen = {{0, 1, 0}, {3, 2, 1}, {7, 0, 0}};
        for (int first = 0; first < 3; first++) {
            NamedFabric x = linked("s1 1 1;s1 2 2;s1 3 3;s1 4 4;h0;h1;h2;h3;", 1, 12, 23);
            for (int i = 0; i < 3; i++) {
                int[] one = seen[(first + i) % 3];
                x.sees(one[0], one[1], one[2]);
            }
            Due.is("a host that there is not, as " + (3 - first) % 3, x.which(0), 0);
        }
        NamedFabric y = linked("s1 1 1;s1 2 2;s1 3 3;s1 4 4;h0;h1;h2;h3;", 1, 12, 23);
        y.sees(0, 1, 0);
        y.sees(0, 3, 0);
        Due.is("two not seen: which(0)", y.which(0), 1);
        Due.is("two not seen: which(1)", y.which(1), 1);
        y.forget();
        y.sees(0, 1, 1);
        y.sees(2, 3, 1);
        Due.is("two seen: which(0)", y.which(0), 1);
        Due.is("two seen: which(1)", y.which(1), 12);
        y.forget();
        y.sees(0, 1, 0);
        y.sees(1, 0, 1);
        Due.is("seen the one way, not the other: which(0)", y.which(0), 0);
    }

    // "how many; the first (10 times the lower SWITCH, and the other one; the least); NONE"
    private static void whichOfAll() {
        NamedFabric x = linked(FIVE + "h0;h1;h2;h3;h4;", 43, 32, 21, 10);
        Due.is("which(0) of nothing seen", x.which(0), 4);
        Due.is("which(1) of nothing seen", x.which(1), 1);
        x.sees(0, 1, 1);
        Due.is("which(0) of three", x.which(0), 3);
        Due.is("which(1) of three", x.which(1), 12);
        x.sees(3, 1, 1);
        Due.is("which(0) of one", x.which(0), 1);
        Due.is("which(1) of one", x.which(1), 34);
        x.sees(4, 3, 1);
        Due.is("which(0) of none", x.which(0), 0);
        Due.is("which(1) of none", x.which(1), NONE);
        NamedFabric y = Due.told(FIVE);
        Due.is("which(0) without links", y.which(0), 0);
        Due.is("which(1) without links", y.which(1), NONE);
        NamedFabric z = linked("s1 1 1;s1 2 1;s1 3 3;h0;h1;h2;", 12);
        z.joins(0, 1);
        Due.is("which(0) not of clashed ones", z.which(0), 1);
        Due.is("which(1) not of clashed ones", z.which(1), 12);
    }

    // "there are none such, where anything was SEEN of a HOST that there is not"
    private static void whichOfHostsThatThereAreNot() {
        for (int is = 0; is < 2; is++) {
            for (int hosts = 0; hosts <= 7; hosts++) {
                NamedFabric x = linked("s1 1 1;s1 2 2;s1 3 3;" + "h-;".repeat(hosts), 1, 12);
                x.sees(hosts, hosts == 0 ? 1 : 0, is);
                Due.is("which(0) of a first not there, " + hosts, x.which(0), 0);
                Due.is("which(1) of a first not there, " + hosts, x.which(1), NONE);
                Due.is("ask() of a first not there, " + hosts, x.ask(), NONE);
                x.forget();
                x.sees(hosts == 0 ? 1 : 0, hosts, is);
                Due.is("which(0) of another not there, " + hosts, x.which(0), 0);
            }
        }
        NamedFabric y = linked("s1 1 1;s1 2 2;s1 3 3;" + "h-;".repeat(8), 1, 12);
        y.sees(7, 6, 0);
        Due.is("which(0) of hosts nowhere", y.which(0), 2);
        y.sees(6, 7, 1);
        Due.is("which(0) of hosts nowhere that see", y.which(0), 0);
        NamedFabric z = linked("s1 1 1;s1 2 2;h0;h1;", 1);
        z.sees(0, 1, 0);
        z.sees(0, 2, 0);
        Due.is("which(0) of one there, one not", z.which(0), 0);
    }

    // "(as all is when it is asked ..)"
    private static void whichAsAllIsWhenAsked() {
        NamedFabric x = linked(FIVE + "h0;h1;h2;", 1, 12);
        x.sees(0, 1, 0);
        Due.is("which(1)", x.which(1), 1);
        x.moves(0, 2);
        Due.is("moved: which(1)", x.which(1), 12);
        x.moves(0, NONE);
        Due.is("moved nowhere: which(0)", x.which(0), 2);
        x.undo();
        x.undo();
        Due.is("undone: which(1)", x.which(1), 1);
        x.joins(0, 2);
        Due.is("joined to a ring: which(0)", x.which(0), 0);
        x.zones(0, 0, 2);
        Due.is("zoned apart: which(0)", x.which(0), 3);
        x.cuts(0, 1);
        Due.is("cut: which(0)", x.which(0), 2);
        NamedFabric y = new NamedFabric();
        Due.tells(y, "s1 1 1;s1 2 2;h0;h1;");
        y.undo();
        y.sees(0, 1, 0);
        Due.is("seen of hosts that were undone", y.which(0), 0);
    }

    // "of several the lowest g, then h: 10 g and h"
    private static void askOfSeveral() {
        Due.is("the lowest g and h", linked(FIVE + "h-;h-;h-;", 1, 12).ask(), 1);
        NamedFabric x = linked("s1 1 1;s1 2 2;s1 3 3;h1;h0;h1;h2;", 1, 12);
        Due.is("the lowest g, then h", x.ask(), 1);
        x.zones(0, 0, 15 - 2);
        Due.is("the lowest h of g 0", x.ask(), 3);
        x.zones(0, 0, 15 - 1);
        Due.is("the lowest h of g 1", x.ask(), 12);
        x.zones(0, 0, 15 - 3);
        Due.is("the highest", x.ask(), 23);
        NamedFabric y = linked("s1 1 1;s1 2 2;s1 3 3;h1;h1;h1;h1;h1;h1;h1;h2;", 1, 12);
        Due.is("h 7", y.ask(), 7);
        y.zones(0, 0, 128 + 64);
        Due.is("g 6, h 7", y.ask(), 67);
    }

    // "by which the greatest number of these that are alike in whether g SEES h is least"
    private static void askOfTheLeastGreatest() {
        NamedFabric x = linked(FIVE + "h0;h1;h2;h3;h4;", 1, 12, 23, 34);
        Due.is("two by two", x.ask(), 2);
        x.zones(0, 0, 1 | 16);
        x.zones(0, 1, 1 | 2);
        Due.is("one by three, or all alike", x.ask(), 1);
        x.zones(0, 1, 1 | 8);
        Due.is("three by one, or all alike", x.ask(), 3);
        x.zones(0, 2, 2 | 8);
        Due.is("two by two, behind g 0", x.ask(), 13);
        x.zones(0, 2, 0);
        x.zones(0, 1, 0);
        Due.is("all alike", x.ask(), 1);
        x.zones(0, 0, 0);
        x.sees(0, 4, 0);
        x.sees(0, 1, 1);
        Due.is("of three that are left", x.ask(), 2);
    }

    // "NONE (one LINK can be at most ..)"
    private static void askOfTooFewLinks() {
        NamedFabric x = Due.told(FIVE + "h0;h1;h2;");
        Due.is("ask() without links", x.ask(), NONE);
        x.joins(0, 1);
        Due.is("ask() with one link", x.ask(), NONE);
        x.joins(1, 2);
        Due.is("ask() with two links", x.ask(), 1);
        x.sees(0, 2, 0);
        Due.is("ask() with two that can be", x.ask(), 1);
        x.sees(0, 1, 0);
        Due.is("ask() with one that can be", x.ask(), NONE);
        x.sees(1, 2, 0);
        Due.is("ask() with none that can be", x.ask(), NONE);
    }

    // "NONE (.. or there are not two HOSTS)"
    private static void askOfTooFewHosts() {
        Due.is("ask() without hosts", linked(FIVE, 1, 12).ask(), NONE);
        Due.is("ask() with one host", linked(FIVE + "h0;", 1, 12).ask(), NONE);
        Due.is("ask() with two hosts", linked(FIVE + "h0;h0;", 1, 12).ask(), 1);
        Due.is("ask() with two hosts nowhere", linked(FIVE + "h-;h-;", 1, 12).ask(), 1);
    }

    private static NamedFabric rich() {
        NamedFabric x = linked("s1 1 1;s2 2 2;s3 3 2;h0;h1;h2;h-;", 1);
        x.joins(1, 2);
        x.zones(0, 1, 3);
        x.moves(3, 0);
        x.ranks(1, 1);
        x.allows(1);
        return x;
    }

    private static void changeAll(NamedFabric x) {
        x.cuts(0, 1);
        x.cuts(1, 2);
        x.allows(1);
        x.joins(0, 2);
        x.joins(2, 1);
        x.zones(0, 1, 0);
        x.zones(0, 3, 12);
        x.moves(3, NONE);
        x.moves(0, 2);
        x.ranks(0, 9);
        x.ranks(1, 8);
        x.renews(0);
        x.allows(0);
    }

    // "IMAGES 0, 1 keep all that 1 and 2 tell but THE TEXT"
    private static void imagesKeepPartsOneAndTwo() {
        for (int image = 0; image < 2; image++) {
            NamedFabric x = rich();
            String ahead = Due.asItIs(x);
            Due.is("keep(" + image + ")", x.keep(image), 2);
            changeAll(x);
            Due.so("all is another", !Due.asItIs(x).equals(ahead));
            Due.is("keep(" + (1 - image) + ") of one fabric", x.keep(1 - image), 1);
            String then = Due.asItIs(x);
            Due.is("back(" + image + ")", x.back(image), 2);
            Due.same("back(" + image + ")", Due.asItIs(x), ahead);
            Due.is("back(" + (1 - image) + ")", x.back(1 - image), 1);
            Due.same("back(" + (1 - image) + ")", Due.asItIs(x), then);
        }
    }

    // "nothing else"
    private static void imagesKeepNothingElse() {
        NamedFabric x = rich();
        x.keep(0);
        Due.is("keep() is not undone", x.count(10), 5);
        x.sees(0, 1, 1);
        Due.type(x, "s7 7 7;");
        x.ranks(0, 9);
        x.back(0);
        Due.is("what was seen stays", x.count(8), 1);
        Due.is("the text stays", x.count(9), 7);
        Due.is("and is told", x.tells(), 1);
        Due.is("as it was", x.device(0, 1), 7);
    }

    // "All of that becomes as an IMAGE has it": time and again, till it is kept anew
    private static void imagesStay() {
        NamedFabric x = rich();
        String ahead = Due.asItIs(x);
        x.keep(1);
        for (int i = 0; i < 3; i++) {
            changeAll(x);
            Due.is("back(1) time " + i, x.back(1), 2);
            Due.same("back(1) time " + i, Due.asItIs(x), ahead);
        }
        x.ranks(2, 9);
        x.undo();
        Due.is("behind undo(): back(1)", x.back(1), 2);
        Due.is("the other was never kept", x.back(0), STATE);
        x.ranks(2, 9);
        x.keep(1);
        x.ranks(2, 8);
        x.back(1);
        Due.is("kept anew", x.device(2, 0), 9);
    }

    // "(nothing can be UNDONE behind back())"
    private static void nothingUndoneBehindBack() {
        NamedFabric x = rich();
        x.keep(0);
        Due.is("count(10) ahead", x.count(10), 5);
        x.back(0);
        Due.is("count(10) behind", x.count(10), 0);
        Due.is("undo()", x.undo(), STATE);
        x.ranks(0, 9);
        Due.is("undo() of what is done then", x.undo(), 0);
        Due.is("device(0, 0)", x.device(0, 0), 1);
        Due.is("undo() no farther", x.undo(), STATE);
        for (int p = 2; p <= 9; p++) {
            x.ranks(0, p);
        }
        Due.is("five are known again", x.count(10), 5);
        Due.is("back(1) refused", x.back(1), STATE);
        Due.is("five are known still", x.count(10), 5);
    }

    // "(A text told: what was SEEN, IMAGES are gone.)"
    private static void seenAndImagesGoneBehindAText() {
        NamedFabric x = rich();
        x.keep(0);
        x.keep(1);
        x.sees(0, 1, 1);
        Due.is("a faulty text", Due.tells(x, "s1 1 1;;"), -17);
        Due.is("what was seen", x.count(8), 1);
        Due.is("back(0) behind a faulty text", x.back(0), 2);
        Due.is("back(1) behind a faulty text", x.back(1), 2);
        Due.is("a text", Due.tells(x, "s1 1 1;s1 2 2;h0;h1;"), 4);
        Due.is("what was seen is gone", x.count(8), 0);
        Due.is("back(0) is gone", x.back(0), STATE);
        Due.is("back(1) is gone", x.back(1), STATE);
        x.joins(0, 1);
        Due.is("which(0) of nothing seen", x.which(0), 1);
        x.undo();
        Due.is("undo() of the text", x.undo(), 0);
        Due.is("what was seen stays gone", x.count(8), 0);
        Due.is("back(0) stays gone", x.back(0), STATE);
    }

    // "3 LINKS that are UP, 4 CLASHED ones .. 7 twos of HOSTS": as many as there can be
    private static void countsAtTheirMost() {
        NamedFabric x = Due.told(FIVE + "s1 6 6;" + "h0;h1;h2;h3;h4;h5;h0;h1;");
        int links = 0;
        for (int a = 0; a < 6; a++) {
            for (int b = a + 1; b < 6; b++) {
                Due.is("links that are up", x.count(3), links++);
                Due.is("joins(" + b + ", " + a + ")", x.joins(b, a), 1);
            }
        }
        Due.is("links that are up", x.count(3), 15);
        Due.is("which(0)", x.which(0), 15);
        Due.is("which(1)", x.which(1), 1);
        Due.is("twos", x.count(7), 28);
        Due.is("fabrics", x.count(2), 1);
        NamedFabric y = Due.told("s1 1 1;s1 2 1;s1 3 1;s1 4 1;s1 5 1;s1 6 1;");
        for (int a = 0; a < 6; a++) {
            for (int b = a + 1; b < 6; b++) {
                Due.is("joins(" + a + ", " + b + ") clashes", y.joins(a, b), 0);
            }
        }
        Due.is("clashed links", y.count(4), 15);
        Due.is("fabrics of clashed ones", y.count(2), 6);
        Due.is("links that are up", y.count(3), 0);
    }
}
