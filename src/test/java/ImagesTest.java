/** Promises 23 to 25: keep, back, count. */
final class ImagesTest {
    private static final int BAD = NamedFabric.BAD, STATE = NamedFabric.STATE;

    public static void main(String[] args) {
        keeping();
        goingBack();
        whatImagesDoNotKeep();
        wrongImages();
        counting();
        countingTheMost();
        Due.end();
    }

    private static NamedFabric made() {
        NamedFabric x = Due.told("s1 1 1;s1 2 2;s1 3 2;h0;h1;h2;h-;");
        x.joins(0, 1);
        x.joins(1, 2);
        x.zones(0, 1, 3);
        x.ranks(1, 9);
        x.allows(1);
        x.moves(3, 1);
        return x;
    }

    private static void keeping() {
        NamedFabric x = made();
        Due.is("keep(0)", x.keep(0), 2);
        x.joins(0, 2);
        Due.is("keep(1)", x.keep(1), 1);
        Due.is("keep(0) anew", x.keep(0), 1);
        x.cuts(0, 2);
        Due.is("back(0)", x.back(0), 1);
        Due.is("link(0, 2)", x.link(0, 2), 1);
    }

    private static void goingBack() {
        NamedFabric x = made();
        x.keep(0);
        String first = Due.asItIs(x);
        x.joins(0, 2);
        x.allows(0);
        x.zones(2, 3, 15);
        x.renews(0);
        x.keep(1);
        String second = Due.asItIs(x);
        x.moves(0, 2);
        x.moves(1, NamedFabric.NONE);
        Due.is("back(0)", x.back(0), 2);
        Due.same("back(0)", Due.asItIs(x), first);
        Due.is("nothing can be undone", x.count(10), 0);
        Due.is("undo()", x.undo(), STATE);
        Due.is("back(1)", x.back(1), 1);
        Due.same("back(1)", Due.asItIs(x), second);
        x.moves(0, 2);
        Due.is("undo() of what is done then", x.undo(), 0);
        Due.same("undone", Due.asItIs(x), second);
        x.zones(0, 0, 1);
        Due.is("back(1) again", x.back(1), 1);
        Due.same("back(1) again", Due.asItIs(x), second);
    }

    private static void whatImagesDoNotKeep() {
        NamedFabric x = made();
        x.sees(0, 1, 1);
        Due.type(x, "s1");
        x.keep(0);
        Due.is("keep is no change to be undone", x.count(10), 5);
        x.sees(0, 1, 0);
        Due.type(x, " 2");
        x.back(0);
        Due.is("what was seen stays", x.count(8), 2);
        Due.is("the text stays", x.count(9), 4);
        x.forget();
        x.clear();
        x.back(0);
        Due.is("what was seen stays gone", x.count(8), 0);
        Due.is("the text stays gone", x.count(9), 0);
    }

    private static void wrongImages() {
        int[] wrong = {-1, 2, NamedFabric.NONE, Integer.MAX_VALUE};
        for (int image : wrong) {
            Due.refused(ImagesTest::madeWithOneImage, "keep(" + image + ")", x -> x.keep(image), BAD);
            Due.refused(ImagesTest::madeWithOneImage, "back(" + image + ")", x -> x.back(image), BAD);
        }
        Due.refused(ImagesTest::madeWithOneImage, "back(0)", x -> x.back(0), STATE);
    }

    private static void madeWithOneImage(NamedFabric x) {
        Due.tells(x, "s1 1 1;s1 2 2;h0;h1;");
        x.keep(1);
        x.joins(0, 1);
        x.sees(0, 1, 0);
    }

    private static void counting() {
        NamedFabric x = made();
        x.sees(0, 1, 1);
        x.sees(0, 1, 1);
        Due.type(x, "abc");
        int[] due = {3, 4, 2, 1, 1, 1, 2, 1, 2, 3, 5};
        for (int what = 0; what < due.length; what++) {
            Due.is("count(" + what + ")", x.count(what), due[what]);
        }
        Due.is("count(-1)", x.count(-1), BAD);
        Due.is("count(11)", x.count(11), BAD);
        x.zones(0, 1, 0);
        Due.is("count(7)", x.count(7), 3);
        Due.is("count(6)", x.count(6), 5);
    }

    private static void countingTheMost() {
        NamedFabric x = Due.told("s1 1 1;s1 2 2;s1 3 3;s1 4 4;s1 5 5;s1 6 6;h0;h1;h2;h3;h4;h5;h0;h0;");
        for (int a = 0; a < 6; a++) {
            for (int b = a + 1; b < 6; b++) {
                Due.is("joins(" + a + ", " + b + ")", x.joins(a, b), 1);
            }
        }
        int[] due = {6, 8, 1, 15, 0, 0, 4 + 5 + 6 + 7 + 8, 28, 0, 0, 5};
        for (int what = 0; what < due.length; what++) {
            Due.is("all joined: count(" + what + ")", x.count(what), due[what]);
        }
        Due.is("all joined: which(0)", x.which(0), 15);
        Due.is("all joined: weakest(0)", x.weakest(0), 1);
        Due.is("all joined: ask()", x.ask(), 1);
        Due.is("all joined: zones(5, 3, 255)", x.zones(5, 3, 255), 0);
        Due.is("nobody sees another than ahead", x.count(6), 4 + 5 + 6 + 7 + 8);
    }
}
