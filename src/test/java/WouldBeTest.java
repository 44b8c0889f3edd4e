/** Promises 17 and 18: would, weakest. */
final class WouldBeTest {
    private static final int BAD = NamedFabric.BAD, STATE = NamedFabric.STATE, NONE = NamedFabric.NONE;

    public static void main(String[] args) {
        outcomes();
        wrongTwos();
        weakestLink();
        weakestOfSeveral();
        weakestOfNone();
        Due.end();
    }

    private static void outcomes() {
        NamedFabric x = Due.told("s1 1 1;s1 2 2;s1 3 2;s1 4 3;h0;h1;h2;h3;");
        Due.is("would(0, 1) free", x.would(0, 1), 1);
        Due.is("would(1, 2) blocks", x.would(1, 2), 3);
        x.allows(1);
        Due.is("would(1, 2) with renew", x.would(1, 2), 2);
        Due.is("would(0, 1) with renew", x.would(0, 1), 1);
        x.zones(1, 2, 3);
        x.zones(2, 2, 5);
        x.zones(3, 2, 1);
        Due.is("would(1, 2) both with renew", x.would(1, 2), 5);
        Due.is("would(1, 3) zones with renew", x.would(1, 3), 4);
        x.allows(0);
        Due.is("would(1, 2) both", x.would(1, 2), 5);
        Due.is("would(2, 1) both", x.would(2, 1), 5);
        Due.is("would(1, 3) zones", x.would(1, 3), 4);
        x.zones(3, 2, 3);
        Due.is("would(1, 3) of like zones", x.would(1, 3), 1);
        x.zones(3, 2, 0);
        x.zones(3, 1, 8);
        Due.is("would(1, 3) of other zones", x.would(1, 3), 1);
        x.joins(0, 1);
        x.joins(1, 3);
        Due.is("would(0, 3) within", x.would(0, 3), 0);
        Due.is("would(0, 1) up", x.would(0, 1), STATE);
        Due.is("would(0, 2) by the fabric's blocks", x.would(0, 2), 5);
        x.joins(0, 2);
        Due.is("would(0, 2) clashed already", x.would(0, 2), 5);
        Due.is("link(0, 2)", x.link(0, 2), 2);
        Due.is("link(0, 3)", x.link(0, 3), 0);
        Due.refused(WouldBeTest::made, "would(0, 2) changes nothing", y -> y.would(0, 2), 1);
        Due.refused(WouldBeTest::made, "weakest(0) changes nothing", y -> y.weakest(0), 1);
    }

    private static void made(NamedFabric x) {
        Due.tells(x, "s1 1 1;s1 2 2;s1 3 3;h0;h1;h2;");
        x.joins(0, 1);
        x.keep(0);
        x.zones(0, 0, 3);
    }

    private static void wrongTwos() {
        NamedFabric x = Due.told("s1 1 1;s1 2 2;");
        int[][] twos = {{0, 0}, {1, 1}, {-1, 0}, {0, -1}, {2, 0}, {0, 2}, {NONE, NONE}};
        for (int[] two : twos) {
            Due.is("would(" + two[0] + ", " + two[1] + ")", x.would(two[0], two[1]), BAD);
        }
    }

    private static void weakestLink() {
        NamedFabric x = Due.told("s1 1 1;s1 2 2;s1 3 3;s1 4 4;h0;h1;h2;h3;h3;h-;");
        x.joins(0, 1);
        x.joins(1, 2);
        x.joins(3, 2);
        Due.is("weakest(0)", x.weakest(0), 12);
        Due.is("weakest(1)", x.weakest(1), 6);
        x.zones(0, 0, 24);
        Due.is("weakest(0) where zones hide", x.weakest(0), 1);
        Due.is("weakest(1) where zones hide", x.weakest(1), 0);
        x.zones(0, 1, 28);
        Due.is("weakest(0)", x.weakest(0), 23);
        Due.is("weakest(1)", x.weakest(1), 2);
        x.joins(1, 3);
        Due.is("weakest(1) with another way", x.weakest(1), 0);
        Due.is("weakest(0) with another way", x.weakest(0), 1);
    }

    private static void weakestOfSeveral() {
        NamedFabric x = Due.told("s1 1 1;s1 2 2;s1 3 3;s1 4 4;s1 5 5;h0;h1;h2;h3;");
        x.joins(4, 3);
        x.joins(1, 2);
        x.joins(1, 3);
        Due.is("the lowest other switch", x.weakest(0), 12);
        Due.is("weakest(1)", x.weakest(1), 2);
        x.joins(0, 2);
        Due.is("the greatest number", x.weakest(0), 12);
        Due.is("weakest(1)", x.weakest(1), 4);
    }

    private static void weakestOfNone() {
        NamedFabric x = Due.told("s1 1 1;s1 2 1;h0;h1;");
        Due.is("weakest(0) of none", x.weakest(0), NONE);
        Due.is("weakest(1) of none", x.weakest(1), NONE);
        x.joins(0, 1);
        Due.is("weakest(0) of a clashed one", x.weakest(0), NONE);
        Due.is("weakest(-1)", x.weakest(-1), BAD);
        Due.is("weakest(2)", x.weakest(2), BAD);
    }
}
