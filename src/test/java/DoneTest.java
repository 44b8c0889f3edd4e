/** Promises 5 to 12: joins, cuts, zones, moves, ranks, renews, allows, undo. */
final class DoneTest {
    private static final int BAD = NamedFabric.BAD, STATE = NamedFabric.STATE, NONE = NamedFabric.NONE;
    private static final String THREE = "s5 10 1;s5 20 2;s5 30 3;h0;h1;h2;h-;";

    public static void main(String[] args) {
        joining();
        joiningHandsOut();
        joiningSharesZones();
        joiningWithZonesAgainstNone();
        joiningAgain();
        cutting();
        zoning();
        moving();
        ranking();
        renewing();
        renewingByFar();
        allowing();
        undoing();
        refusals();
        Due.end();
    }

    private static void joining() {
        NamedFabric x = Due.told(THREE);
        Due.is("joins(0, 1)", x.joins(0, 1), 1);
        Due.is("link(1, 0)", x.link(1, 0), 1);
        Due.is("joins(1, 0)", x.joins(1, 0), STATE);
        Due.is("joins(2, 1)", x.joins(2, 1), 1);
        Due.is("count(2)", x.count(2), 1);
        Due.is("joins(0, 2) within", x.joins(0, 2), 1);
        Due.is("count(3)", x.count(3), 3);
        int[] notices = {2, 2, 1, 0};
        int[] news = {4, 4, 3, 0};
        for (int h = 0; h < 4; h++) {
            Due.is("host(" + h + ", 2)", x.host(h, 2), notices[h]);
            Due.is("host(" + h + ", 3)", x.host(h, 3), news[h]);
        }
    }

    private static void joiningHandsOut() {
        NamedFabric x = Due.told("s5 10 1;s4 20 1;s3 30 1;h0;h1;");
        Due.is("joins(0, 1) of one block", x.joins(0, 1), 0);
        Due.is("link(0, 1)", x.link(0, 1), 2);
        Due.is("joins(0, 1) again", x.joins(0, 1), 0);
        Due.is("nobody is told", x.count(6), 0);
        x.allows(1);
        Due.is("link(0, 1) stays clashed", x.link(0, 1), 2);
        Due.is("joins(0, 1) with renew", x.joins(0, 1), 1);
        Due.is("count(4)", x.count(4), 0);
        Due.is("device(0, 3)", x.device(0, 3), 2);
        Due.is("device(1, 3)", x.device(1, 3), 1);
        Due.is("joins(2, 0) with renew", x.joins(2, 0), 1);
        Due.is("device(2, 3)", x.device(2, 3), 1);
        Due.is("device(0, 3)", x.device(0, 3), 2);
        Due.is("device(1, 3)", x.device(1, 3), 3);
        NamedFabric y = Due.told("s5 10 3;s4 20 2;s3 30 1;");
        y.allows(1);
        y.joins(0, 1);
        y.joins(1, 2);
        Due.is("blocks that don't clash stay", y.device(0, 3), 3);
    }

    private static void joiningSharesZones() {
        NamedFabric x = Due.told(THREE);
        x.zones(0, 0, 3);
        x.zones(1, 0, 3);
        x.zones(1, 1, 6);
        x.zones(2, 2, 8);
        Due.is("joins(0, 1) of like zones", x.joins(0, 1), 1);
        Due.is("joins(1, 2)", x.joins(1, 2), 1);
        for (int a = 0; a < 3; a++) {
            Due.is("zone(a, 0)", x.zone(a, 0), 3);
            Due.is("zone(a, 1)", x.zone(a, 1), 6);
            Due.is("zone(a, 2)", x.zone(a, 2), 8);
            Due.is("zone(a, 3)", x.zone(a, 3), 0);
        }
        Due.is("host(1, 1)", x.host(1, 1), 5);
        Due.is("host(0, 1)", x.host(0, 1), 2);
        x.cuts(0, 1);
        x.zones(0, 0, 1);
        Due.is("joins(0, 1) of unlike zones", x.joins(0, 1), 0);
        Due.is("zone(0, 0) stays", x.zone(0, 0), 1);
        Due.is("zone(1, 0) stays", x.zone(1, 0), 3);
        x.allows(1);
        Due.is("joins(0, 1) of unlike zones with renew", x.joins(0, 1), 0);
        x.zones(0, 0, 0);
        Due.is("joins(0, 1) where one zone is empty", x.joins(0, 1), 1);
        Due.is("zone(0, 0)", x.zone(0, 0), 3);
    }

    private static void joiningWithZonesAgainstNone() {
        NamedFabric x = Due.told("s5 10 1;s5 20 2;h0;h0;h1;");
        Due.is("host(0, 1) ahead", x.host(0, 1), 2);
        x.zones(1, 0, 5);
        x.joins(0, 1);
        Due.is("host(0, 1) behind", x.host(0, 1), 4);
        Due.is("news of both sorts", x.host(0, 3), 6);
        Due.is("one notice for all", x.host(0, 2), 1);
        Due.is("host(1, 3)", x.host(1, 3), 1);
        Due.is("host(2, 3)", x.host(2, 3), 1);
    }

    private static void joiningAgain() {
        NamedFabric x = Due.told("s5 10 1;s5 20 1;s5 30 3;");
        x.joins(0, 1);
        x.joins(1, 2);
        x.allows(1);
        Due.is("joins(0, 2)", x.joins(0, 2), 1);
        Due.is("count(2)", x.count(2), 1);
        Due.is("a clashed link stays so within a fabric", x.link(0, 1), 2);
        Due.is("count(4)", x.count(4), 1);
        Due.is("joins(0, 1) within", x.joins(0, 1), 1);
        Due.is("link(0, 1)", x.link(0, 1), 1);
        Due.is("count(4)", x.count(4), 0);
    }

    private static void cutting() {
        NamedFabric x = Due.told(THREE);
        Due.is("cuts(0, 1) of none", x.cuts(0, 1), STATE);
        x.joins(0, 1);
        x.joins(1, 2);
        x.joins(0, 2);
        x.zones(0, 3, 7);
        Due.is("cuts(1, 0) in a ring", x.cuts(1, 0), 1);
        Due.is("host(0, 2)", x.host(0, 2), 2);
        Due.is("device(1, 5)", x.device(1, 5), 2);
        Due.is("cuts(1, 2)", x.cuts(1, 2), 2);
        Due.is("cuts(1, 2) again", x.cuts(1, 2), STATE);
        Due.is("zone(1, 3)", x.zone(1, 3), 7);
        Due.is("device(1, 4)", x.device(1, 4), 1);
        Due.is("host(1, 3)", x.host(1, 3), 5);
        Due.is("host(0, 3)", x.host(0, 3), 2);
        x.zones(1, 3, 2);
        Due.is("zones are apart behind a cut", x.zone(0, 3), 7);
        NamedFabric y = Due.told("s5 10 1;s5 20 1;");
        y.joins(0, 1);
        Due.is("cuts(0, 1) of a clashed one", y.cuts(0, 1), 2);
        Due.is("link(0, 1)", y.link(0, 1), 0);
    }

    private static void zoning() {
        NamedFabric x = Due.told(THREE);
        x.joins(0, 1);
        Due.is("zones(0, 3, 15)", x.zones(0, 3, 15), 0);
        Due.is("zones(1, 3, 9)", x.zones(1, 3, 9), 15);
        Due.is("zone(0, 3)", x.zone(0, 3), 9);
        Due.is("zone(2, 3)", x.zone(2, 3), 0);
        Due.is("zones(0, 3, 9)", x.zones(0, 3, 9), STATE);
        Due.is("host(0, 1)", x.host(0, 1), 0);
        Due.is("host(0, 3)", x.host(0, 3), 2);
        Due.is("host(0, 2)", x.host(0, 2), 2);
        Due.is("zones(0, 3, 0)", x.zones(0, 3, 0), 9);
        Due.is("host(0, 1) with no zones", x.host(0, 1), 2);
        Due.is("host(2, 2)", x.host(2, 2), 0);
        Due.is("zones(2, 0, 4)", x.zones(2, 0, 4), 0);
        Due.is("a zone in which one is alone", x.zones(0, 0, 1), 0);
        Due.is("hides the others", x.host(1, 1), 0);
        Due.is("zones(0, 0, 0) of no hosts", new NamedFabric().zones(0, 0, 0), STATE);
        Due.is("zones(0, 0, 1) of no hosts", new NamedFabric().zones(0, 0, 1), BAD);
    }

    private static void moving() {
        NamedFabric x = Due.told(THREE);
        Due.is("moves(3, 0)", x.moves(3, 0), NONE);
        Due.is("device(0, 7)", x.device(0, 7), 9);
        Due.is("host(3, 3)", x.host(3, 3), 1);
        Due.is("host(0, 3)", x.host(0, 3), 8);
        Due.is("moves(3, 0) again", x.moves(3, 0), STATE);
        Due.is("moves(3, 2)", x.moves(3, 2), 0);
        Due.is("host(3, 3)", x.host(3, 3), 5);
        Due.is("host(3, 2)", x.host(3, 2), 2);
        Due.is("host(2, 2)", x.host(2, 2), 1);
        Due.is("moves(3, NONE)", x.moves(3, NONE), 2);
        Due.is("moves(3, NONE) again", x.moves(3, NONE), STATE);
        Due.is("host(3, 0)", x.host(3, 0), NONE);
        Due.is("host(3, 1)", x.host(3, 1), 0);
        x.moves(0, NONE);
        Due.is("nowhere nobody is seen", x.host(0, 1), 0);
        x.zones(0, 0, 9);
        Due.is("in one zone, but nowhere", x.host(3, 1), 0);
    }

    private static void ranking() {
        NamedFabric x = Due.told(THREE);
        x.joins(0, 1);
        x.joins(1, 2);
        Due.is("ranks(2, 1)", x.ranks(2, 1), 5);
        Due.is("ranks(2, 1) again", x.ranks(2, 1), STATE);
        Due.is("device(0, 4)", x.device(0, 4), 2);
        Due.is("device(0, 5)", x.device(0, 5), 2);
        Due.is("device(0, 3) stays", x.device(0, 3), 1);
        Due.is("ranks(2, 9)", x.ranks(2, 9), 1);
        Due.is("device(2, 4)", x.device(2, 4), 0);
        Due.is("nobody is told", x.count(6), 5);
    }

    private static void renewing() {
        NamedFabric x = Due.told("s5 10 0;s5 20 1;s5 30 0;");
        x.allows(1);
        Due.is("renews(0)", x.renews(0), 0);
        Due.is("count(10)", x.count(10), 3);
        x.joins(0, 1);
        x.joins(0, 2);
        Due.is("device(1, 3)", x.device(1, 3), 2);
        x.ranks(1, 1);
        Due.is("renews(2)", x.renews(2), 2);
        Due.is("device(1, 3)", x.device(1, 3), 1);
        Due.is("device(0, 3)", x.device(0, 3), 2);
        Due.is("device(2, 3)", x.device(2, 3), 3);
        Due.is("renews(2) again", x.renews(2), 0);
        x.cuts(0, 2);
        Due.is("renews(2) alone", x.renews(2), 1);
        Due.is("device(2, 3)", x.device(2, 3), 1);
        Due.is("others stay", x.device(1, 3), 1);
    }

    private static void renewingByFar() {
        NamedFabric x = Due.told("s9 1 8;s9 9 8;s9 5 8;s1 70 8;s9 2 0;s9 0 2;");
        x.allows(1);
        x.joins(3, 1);
        x.joins(3, 2);
        x.joins(1, 0);
        x.joins(2, 5);
        x.joins(3, 4);
        x.renews(0);
        int[] blocks = {5, 3, 2, 8, 1, 4};
        for (int a = 0; a < 6; a++) {
            Due.is("device(" + a + ", 3)", x.device(a, 3), blocks[a]);
        }
    }

    private static void allowing() {
        NamedFabric x = new NamedFabric();
        Due.is("allows(0)", x.allows(0), STATE);
        Due.is("allows(1)", x.allows(1), 1);
        Due.is("count(5)", x.count(5), 1);
        Due.is("allows(1) again", x.allows(1), STATE);
        Due.is("allows(2)", x.allows(2), BAD);
        Due.is("allows(-1)", x.allows(-1), BAD);
        Due.is("allows(0)", x.allows(0), 1);
        Due.is("count(5)", x.count(5), 0);
    }

    private static void undoing() {
        NamedFabric x = new NamedFabric();
        Due.is("undo() of none", x.undo(), STATE);
        Due.tells(x, THREE);
        String[] was = new String[8];
        was[0] = Due.asItIs(x);
        x.joins(0, 1);
        was[1] = Due.asItIs(x);
        x.zones(0, 1, 3);
        was[2] = Due.asItIs(x);
        x.moves(0, 2);
        was[3] = Due.asItIs(x);
        x.ranks(1, 2);
        was[4] = Due.asItIs(x);
        x.renews(0);
        was[5] = Due.asItIs(x);
        x.allows(1);
        was[6] = Due.asItIs(x);
        x.cuts(0, 1);
        Due.is("count(10)", x.count(10), 5);
        for (int left = 4; left >= 0; left--) {
            Due.is("undo()", x.undo(), left);
            Due.same("undone to " + (left + 2), Due.asItIs(x), was[left + 2]);
        }
        Due.is("undo() of what is lost", x.undo(), STATE);
        x.cuts(0, 1);
        Due.is("undo()", x.undo(), 0);
        Due.same("undone", Due.asItIs(x), was[2]);
        NamedFabric y = new NamedFabric();
        String first = Due.asItIs(y);
        Due.tells(y, THREE);
        y.sees(0, 1, 1);
        Due.is("undo() of tells()", y.undo(), 0);
        Due.same("as at first", Due.asItIs(y), first);
        Due.is("what was seen stays", y.count(8), 1);
        NamedFabric z = Due.told("s5 10 1;s5 20 1;");
        z.joins(0, 1);
        z.joins(0, 1);
        Due.is("a call that changes nothing is undone too", z.undo(), 2);
        Due.is("link(0, 1)", z.link(0, 1), 2);
        z.undo();
        Due.is("link(0, 1)", z.link(0, 1), 0);
    }

    private static void made(NamedFabric x) {
        Due.tells(x, THREE);
        x.joins(0, 1);
        x.zones(0, 1, 3);
        x.keep(0);
        x.moves(2, 1);
    }

    private static void refusals() {
        int[][] wrongTwos = {{0, 0}, {-1, 0}, {0, -1}, {3, 0}, {0, 3}, {NONE, 1}, {Integer.MAX_VALUE, Integer.MIN_VALUE}};
        for (int[] two : wrongTwos) {
            String of = "(" + two[0] + ", " + two[1] + ")";
            Due.refused(DoneTest::made, "joins" + of, x -> x.joins(two[0], two[1]), BAD);
            Due.refused(DoneTest::made, "cuts" + of, x -> x.cuts(two[0], two[1]), BAD);
        }
        int[][] wrongZones = {{-1, 0, 0}, {3, 0, 0}, {0, -1, 0}, {0, 4, 0}, {0, 0, -1}, {0, 0, 16}, {0, 0, 1 << 31}, {0, 4, 3}};
        for (int[] w : wrongZones) {
            Due.refused(DoneTest::made, "zones(" + w[0] + ", " + w[1] + ", " + w[2] + ")", x -> x.zones(w[0], w[1], w[2]), BAD);
        }
        int[][] wrongMoves = {{-1, 0}, {4, 0}, {0, 3}, {0, -1}, {0, -8}, {4, NONE}, {NONE, NONE}};
        for (int[] w : wrongMoves) {
            Due.refused(DoneTest::made, "moves(" + w[0] + ", " + w[1] + ")", x -> x.moves(w[0], w[1]), BAD);
        }
        int[][] wrongRanks = {{-1, 5}, {3, 5}, {0, 0}, {0, 10}, {0, -5}};
        for (int[] w : wrongRanks) {
            Due.refused(DoneTest::made, "ranks(" + w[0] + ", " + w[1] + ")", x -> x.ranks(w[0], w[1]), BAD);
        }
        Due.refused(DoneTest::made, "renews(-1)", x -> x.renews(-1), BAD);
        Due.refused(DoneTest::made, "renews(3)", x -> x.renews(3), BAD);
        Due.refused(DoneTest::made, "allows(2)", x -> x.allows(2), BAD);
        Due.refused(DoneTest::made, "allows(-1)", x -> x.allows(-1), BAD);
        Due.refused(DoneTest::made, "joins(1, 0)", x -> x.joins(1, 0), STATE);
        Due.refused(DoneTest::made, "cuts(1, 2)", x -> x.cuts(1, 2), STATE);
        Due.refused(DoneTest::made, "zones(1, 1, 3)", x -> x.zones(1, 1, 3), STATE);
        Due.refused(DoneTest::made, "moves(2, 1)", x -> x.moves(2, 1), STATE);
        Due.refused(DoneTest::made, "moves(3, NONE)", x -> x.moves(3, NONE), STATE);
        Due.refused(DoneTest::made, "ranks(0, 5)", x -> x.ranks(0, 5), STATE);
        Due.refused(DoneTest::made, "allows(0)", x -> x.allows(0), STATE);
        Due.refused(x -> x.type('s'), "undo()", x -> x.undo(), STATE);
    }
}
