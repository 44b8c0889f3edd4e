import java.util.ArrayDeque;
import java.util.Deque;

/** The sentences of part 2 that name a boundary case: principals, blocks, joins, cuts, who sees whom, notices, undone. */
final class EdgeFabricTest {
    private static final int STATE = NamedFabric.STATE, NONE = NamedFabric.NONE;
    private static final String SIX = "s5 10 1;s5 20 2;s5 30 3;s5 40 4;s5 50 5;s5 60 6;";

    public static void main(String[] args) {
        asManyAsCanBe();
        renewOnOrOff();
        principalOfSeveral();
        principalOfEachFabric();
        far();
        blocksThatAllWant();
        blocksOfAny();
        blocksLessFarFirst();
        blocksOfLowerNamesFirst();
        renewsOfOneFabric();
        joinedWithin();
        zonesClash();
        blocksClash();
        clashedByEither();
        clashedStays();
        joinedZones();
        handedOutOnlyIfBlocksClashed();
        cutUpOrClashed();
        zonesAndBlocksStay();
        seesByZones();
        seesNowhere();
        noticesOfBothSorts();
        newsStay();
        noNoticeWithoutChange();
        manyNotices();
        fiveAreKnown();
        eachCallIsUndone();
        undoneAndDoneAgain();
        undoLeavesTheText();
        the512thCall();
        Due.end();
    }

    private static void row(String what, NamedFabric x, int which, int... due) {
        for (int a = 0; a < due.length; a++) {
            Due.is(what + ": device(" + a + ", " + which + ")", x.device(a, which), due[a]);
        }
    }

    private static NamedFabric chain(String text, int... order) {
        NamedFabric x = Due.told(text);
        x.allows(1);
        for (int i = 1; i < order.length; i++) {
            Due.is("joins(" + order[i - 1] + ", " + order[i] + ")", x.joins(order[i - 1], order[i]), 1);
        }
        return x;
    }

    // "A FABRIC: SWITCHES that come to one another over LINKS that are UP, as many as can be."
    private static void asManyAsCanBe() {
        NamedFabric x = Due.told(SIX);
        Due.is("six fabrics", x.count(2), 6);
        row("each alone", x, 6, 1, 2, 4, 8, 16, 32);
        x.joins(0, 3);
        x.joins(1, 4);
        x.joins(5, 2);
        Due.is("three fabrics of two", x.count(2), 3);
        row("by two", x, 6, 9, 18, 36, 9, 18, 36);
        Due.is("keep(0)", x.keep(0), 3);
        x.joins(4, 5);
        Due.is("two fabrics", x.count(2), 2);
        row("two and four", x, 6, 9, 54, 54, 9, 54, 54);
        Due.is("cuts(0, 3)", x.cuts(0, 3), 3);
        Due.is("back(0)", x.back(0), 3);
        row("a row from end to end", chain(SIX, 3, 0, 5, 1, 4, 2), 6, 63, 63, 63, 63, 63, 63);
    }

    // "RENEW is on, or off (at first)."
    private static void renewOnOrOff() {
        NamedFabric x = new NamedFabric();
        Due.is("at first", x.count(5), 0);
        Due.is("allows(0)", x.allows(0), STATE);
        Due.is("allows(1)", x.allows(1), 1);
        Due.is("on", x.count(5), 1);
        Due.is("allows(1) again", x.allows(1), STATE);
        Due.is("allows(0)", x.allows(0), 1);
        Due.is("off", x.count(5), 0);
    }

    // "that of the lowest PRIORITY, of several that of the lowest NAME"
    private static void principalOfSeveral() {
        row("names alone", chain("s9 99 1;s9 1 2;s9 0 3;", 0, 1, 2), 4, 2, 2, 2);
        row("names from behind", chain("s1 0 1;s1 1 2;s1 99 3;", 0, 1, 2), 4, 0, 0, 0);
        row("priority ahead of name", chain("s9 0 1;s8 99 2;s9 1 3;", 0, 1, 2), 4, 1, 1, 1);
        row("two of the lowest priority", chain("s9 0 1;s8 99 2;s8 98 3;", 0, 1, 2), 4, 2, 2, 2);
        NamedFabric x = chain("s2 50 1;s2 49 2;s3 0 3;", 0, 1, 2);
        row("ahead of ranks", x, 4, 1, 1, 1);
        x.ranks(2, 2);
        row("as low a priority and a lower name", x, 4, 2, 2, 2);
        x.ranks(0, 1);
        row("a lower priority", x, 4, 0, 0, 0);
        x.ranks(0, 3);
        x.ranks(2, 9);
        row("ranked up again", x, 4, 1, 1, 1);
    }

    // "PRINCIPAL of a FABRIC: of its SWITCHES"
    private static void principalOfEachFabric() {
        NamedFabric x = chain("s3 1 1;s1 2 2;s2 3 3;s5 4 3;", 0, 1, 2);
        row("one and a single one", x, 4, 1, 1, 1, 3);
        x.allows(0);
        Due.is("joins(3, 2) clashes", x.joins(3, 2), 0);
        row("a clashed link leads nowhere", x, 4, 1, 1, 1, 3);
        x.cuts(0, 1);
        row("behind a cut", x, 4, 0, 1, 1, 3);
        row("fabrics behind a cut", x, 6, 1, 6, 6, 8);
    }

    // "the fewest LINKS that are UP from the PRINCIPAL of its FABRIC to it (0 of that one)"
    private static void far() {
        NamedFabric x = chain(SIX, 0, 1, 2, 3, 4, 5);
        row("a row", x, 5, 0, 1, 2, 3, 4, 5);
        x.joins(5, 0);
        row("a ring", x, 5, 0, 1, 2, 3, 2, 1);
        x.ranks(3, 1);
        row("a ring from 3", x, 5, 3, 2, 1, 0, 1, 2);
        x.cuts(3, 4);
        row("a row from 3", x, 5, 3, 2, 1, 0, 5, 4);
        x.cuts(1, 2);
        row("two fabrics", x, 5, 0, 1, 1, 0, 2, 1);
        NamedFabric y = Due.told("s5 10 1;s5 20 1;s5 30 3;");
        y.joins(0, 1);
        y.allows(1);
        y.joins(0, 2);
        y.joins(2, 1);
        Due.is("the link stays clashed", y.link(0, 1), 2);
        row("not over the clashed link", y, 5, 0, 2, 1);
    }

    // "the BLOCK that it WANTS, if it WANTS one and none has got that yet, else the lowest that none has got"
    private static void blocksThatAllWant() {
        NamedFabric x = Due.told("s1 50 8;s2 40 8;s3 30 8;s4 20 8;s5 10 8;s6 0 8;");
        x.allows(1);
        for (int a = 1; a < 6; a++) {
            Due.is("joins(0, " + a + ")", x.joins(0, a), 1);
        }
        row("all want 8", x, 3, 8, 5, 4, 3, 2, 1);
        row("all want 1", chain("s1 1 1;s1 2 1;s1 3 1;s1 4 1;s1 5 1;s1 6 1;", 0, 1, 2, 3, 4, 5), 3, 1, 2, 3, 4, 5, 6);
    }

    // "WANT a BLOCK (1 to 8), or any (0)", ".. else the lowest that none has got"
    private static void blocksOfAny() {
        row("any", chain("s1 1 0;s1 2 0;s1 3 0;s1 4 0;s1 5 0;s1 6 0;", 0, 1, 2, 3, 4, 5), 3, 1, 2, 3, 4, 5, 6);
        row("wanted, but got already", chain("s1 1 0;s2 2 1;s3 3 2;", 0, 1, 2), 3, 1, 2, 3);
        NamedFabric x = chain("s1 1 2;s2 2 0;s3 3 0;s4 4 1;", 0, 1, 2, 3);
        x.renews(0);
        row("the lowest that none has got", x, 3, 2, 1, 3, 4);
        NamedFabric y = chain("s1 1 3;s2 2 3;s3 3 1;", 0, 1, 2);
        row("not what a later one wants is spared", y, 3, 3, 1, 2);
    }

    // "the one less FAR first"
    private static void blocksLessFarFirst() {
        NamedFabric x = chain("s1 90 1;s9 80 2;s9 0 2;s9 70 2;", 0, 1, 2, 3);
        row("less far ahead of lower names", x, 3, 1, 2, 3, 4);
        NamedFabric y = chain("s9 5 5;s9 4 5;s9 3 5;s1 99 5;", 0, 1, 2, 3);
        y.renews(0);
        row("from the principal on", y, 3, 3, 2, 1, 5);
    }

    // "of as FAR ones that of the lower NAME first"
    private static void blocksOfLowerNamesFirst() {
        NamedFabric x = Due.told("s1 50 7;s2 9 4;s3 8 4;s4 10 4;");
        x.allows(1);
        x.joins(0, 1);
        x.joins(0, 2);
        x.joins(0, 3);
        row("lower names, not priorities", x, 3, 7, 1, 4, 2);
    }

    // "RENEWED, the FABRIC of a SWITCH: how many of its SWITCHES have another BLOCK."
    private static void renewsOfOneFabric() {
        NamedFabric x = chain("s1 1 0;s2 2 0;s3 3 0;", 0, 1, 2);
        Due.is("renews(0) with nothing to change", x.renews(0), 0);
        x.ranks(2, 1);
        x.ranks(0, 9);
        Due.is("renews(0) with two that change", x.renews(0), 2);
        row("renewed from 2", x, 3, 3, 2, 1);
        x.cuts(0, 1);
        Due.is("renews(0) alone", x.renews(0), 1);
        row("renewed alone", x, 3, 1, 2, 1);
        Due.is("renews(1)", x.renews(1), 0);
        x.allows(0);
        x.ranks(1, 1);
        Due.is("renews(2), RENEW off", x.renews(2), 2);
        row("renewed, RENEW off", x, 3, 1, 1, 2);
    }

    // "if they are of one FABRIC, their LINK is UP"
    private static void joinedWithin() {
        NamedFabric x = chain(SIX + "h0;h2;", 0, 1, 2);
        x.allows(0);
        x.zones(0, 0, 1);
        Due.is("would(0, 2)", x.would(0, 2), 0);
        Due.is("joins(0, 2)", x.joins(0, 2), 1);
        Due.is("zone(2, 0)", x.zone(2, 0), 1);
        row("blocks stay", x, 3, 1, 2, 3);
        NamedFabric y = chain("s1 1 0;s2 2 0;s3 3 0;", 0, 1, 2);
        y.ranks(2, 1);
        y.ranks(0, 9);
        y.joins(0, 2);
        row("nothing is handed out within", y, 3, 1, 2, 3);
    }

    // "if some ZONE is empty in neither of the two FABRICS, and has other HOSTS in the one than in the other"
    private static void zonesClash() {
        int[] sets = {0, 1, 2, 3, 127, 128, 255};
        for (int z = 0; z < 4; z++) {
            for (int p : sets) {
                for (int q : sets) {
                    NamedFabric x = Due.told("s1 1 1;s1 2 2;h0;h1;h-;h0;h1;h-;h0;h1;");
                    x.zones(0, z, p);
                    x.zones(1, z, q);
                    boolean clash = p != 0 && q != 0 && p != q;
                    String of = " of " + p + ", " + q + " as zone " + z;
                    Due.is("would(0, 1)" + of, x.would(0, 1), clash ? 4 : 1);
                    Due.is("joins(1, 0)" + of, x.joins(1, 0), clash ? 0 : 1);
                    Due.is("zone(0, z)" + of, x.zone(0, z), clash ? p : p | q);
                    Due.is("zone(1, z)" + of, x.zone(1, z), clash ? q : p | q);
                }
            }
        }
        NamedFabric y = Due.told("s1 1 1;s1 2 2;h0;h1;");
        y.zones(0, 0, 1);
        y.zones(1, 1, 2);
        Due.is("would(0, 1) of unlike zones' numbers", y.would(0, 1), 1);
        y.zones(1, 0, 1);
        y.zones(0, 1, 3);
        Due.is("would(0, 1) of one like, one unlike", y.would(0, 1), 4);
    }

    // "if a SWITCH of the one and a SWITCH of the other have one BLOCK"
    private static void blocksClash() {
        for (int want = 1; want <= 5; want++) {
            for (int last = 3; last < 6; last++) {
                StringBuilder text = new StringBuilder("s1 1 1;s1 2 2;s1 3 3;");
                for (int a = 3; a < 6; a++) {
                    text.append("s1 ").append(a + 1).append(' ').append(a == last ? want : a + 3).append(';');
                }
                NamedFabric x = Due.told(text.toString());
                x.joins(0, 1);
                x.joins(1, 2);
                x.joins(3, 4);
                x.joins(4, 5);
                Due.is("would(0, 5) with block " + want + " at " + last, x.would(0, 5), want <= 3 ? 3 : 1);
            }
        }
        NamedFabric y = Due.told("s1 1 8;s1 2 8;s1 3 1;s1 4 0;");
        Due.is("both have 8", y.would(0, 1), 3);
        Due.is("any has 1", y.would(2, 3), 3);
        Due.is("unlike", y.would(1, 2), 1);
    }

    // "If ZONES clash, or BLOCKS do and RENEW is off, the LINK is CLASHED. Else it is UP"
    private static void clashedByEither() {
        for (int kind = 0; kind < 8; kind++) {
            boolean zones = (kind & 1) != 0;
            boolean blocks = (kind & 2) != 0;
            boolean renew = (kind & 4) != 0;
            NamedFabric x = Due.told(blocks ? "s1 1 4;s1 2 4;h0;h1;" : "s1 1 4;s1 2 5;h0;h1;");
            x.allows(renew ? 1 : 0);
            x.zones(0, 2, 1);
            x.zones(1, 2, zones ? 3 : 1);
            int would = zones ? blocks ? 5 : 4 : blocks ? renew ? 2 : 3 : 1;
            Due.is("would(0, 1) of kind " + kind, x.would(0, 1), would);
            Due.is("joins(0, 1) of kind " + kind, x.joins(0, 1), would > 2 ? 0 : 1);
            Due.is("link(0, 1) of kind " + kind, x.link(0, 1), would > 2 ? 2 : 1);
            Due.is("device(1, 3) of kind " + kind, x.device(1, 3), !blocks ? 5 : would == 2 ? 1 : 4);
            Due.is("fabrics of kind " + kind, x.count(2), would > 2 ? 2 : 1);
        }
    }

    // "JOINED, two SWITCHES (no LINK between them is UP)": a clashed one may be joined anew, and is not by itself
    private static void clashedStays() {
        NamedFabric x = Due.told("s1 1 1;s1 2 1;");
        x.joins(0, 1);
        x.allows(1);
        Due.is("link(0, 1) with RENEW on", x.link(0, 1), 2);
        Due.is("count(4)", x.count(4), 1);
        Due.is("would(0, 1)", x.would(0, 1), 2);
        Due.is("joins(0, 1) again", x.joins(0, 1), 1);
        Due.is("count(3)", x.count(3), 1);
        Due.is("count(4)", x.count(4), 0);
    }

    // "each ZONE of the FABRIC that there is then has all HOSTS of that ZONE of both"
    private static void joinedZones() {
        NamedFabric x = Due.told(SIX + "h0;h1;h2;h-;");
        x.joins(0, 1);
        x.joins(2, 3);
        x.zones(0, 0, 8);
        x.zones(1, 1, 3);
        x.zones(2, 1, 3);
        x.zones(3, 3, 15);
        Due.is("joins(1, 2)", x.joins(1, 2), 1);
        int[] due = {8, 3, 0, 15};
        for (int z = 0; z < 4; z++) {
            for (int a = 0; a < 6; a++) {
                Due.is("zone(" + a + ", " + z + ")", x.zone(a, z), a < 4 ? due[z] : 0);
            }
        }
    }

    // "if BLOCKS clashed, they are HANDED OUT"
    private static void handedOutOnlyIfBlocksClashed() {
        NamedFabric x = chain("s1 1 0;s2 2 1;", 0, 1);
        row("handed out", x, 3, 1, 2);
        x.cuts(0, 1);
        x.ranks(0, 9);
        Due.is("joins(0, 1) with other blocks", x.joins(0, 1), 1);
        row("not handed out", x, 3, 1, 2);
        x.renews(0);
        row("renewed", x, 3, 2, 1);
    }

    // "CUT, a LINK that is UP or CLASHED: there is none."
    private static void cutUpOrClashed() {
        NamedFabric x = Due.told("s1 1 1;s1 2 1;s1 3 3;h0;h1;h2;");
        x.joins(0, 1);
        x.joins(1, 2);
        Due.is("cuts(1, 0) of a clashed one", x.cuts(1, 0), 2);
        Due.is("link(0, 1)", x.link(0, 1), 0);
        Due.is("cuts(0, 1) of none", x.cuts(0, 1), STATE);
        Due.is("notices", x.count(6), 2);
        Due.is("cuts(2, 1) of one that is up", x.cuts(2, 1), 3);
        Due.is("link(1, 2)", x.link(1, 2), 0);
        Due.is("cuts(1, 2) of none", x.cuts(1, 2), STATE);
        Due.is("notices", x.count(6), 4);
        NamedFabric ring = chain(SIX, 0, 1, 2, 3, 4, 5, 0);
        Due.is("cuts(0, 5) of a ring", ring.cuts(0, 5), 1);
        Due.is("cuts(2, 3) of a row", ring.cuts(2, 3), 2);
        Due.is("cuts(0, 1)", ring.cuts(0, 1), 3);
    }

    // "(ZONES, BLOCKS of all SWITCHES stay as they are.)"
    private static void zonesAndBlocksStay() {
        NamedFabric x = chain("s1 1 1;s1 2 1;s1 3 1;h0;h1;", 0, 1, 2);
        x.zones(0, 3, 2);
        x.cuts(0, 1);
        row("behind a cut", x, 3, 1, 2, 3);
        for (int a = 0; a < 3; a++) {
            Due.is("zone(" + a + ", 3) behind a cut", x.zone(a, 3), 2);
        }
        x.zones(2, 3, 3);
        Due.is("zone(0, 3) is another's", x.zone(0, 3), 2);
        Due.is("zone(1, 3) is the same's", x.zone(1, 3), 3);
        x.joins(0, 1);
        Due.is("link(0, 1) clashes", x.link(0, 1), 2);
        x.cuts(1, 0);
        row("behind a clashed one's cut", x, 3, 1, 2, 3);
        Due.is("zone(0, 3)", x.zone(0, 3), 2);
    }

    // "and both are in some ZONE of it, or all its ZONES are empty"
    private static void seesByZones() {
        NamedFabric x = Due.told("s1 1 1;s1 2 2;s1 3 3;h0;h0;h1;h2;");
        x.joins(0, 1);
        Due.is("no zones: host(0, 1)", x.host(0, 1), 6);
        x.zones(2, 0, 15);
        Due.is("zones of another fabric: host(0, 1)", x.host(0, 1), 6);
        Due.is("in a zone, not of the fabric: host(3, 1)", x.host(3, 1), 0);
        x.zones(0, 3, 8);
        Due.is("a zone of a host elsewhere: host(0, 1)", x.host(0, 1), 0);
        x.zones(0, 3, 3);
        x.zones(0, 2, 6);
        Due.is("through zone 3: host(0, 1)", x.host(0, 1), 2);
        Due.is("through zones 2, 3: host(1, 1)", x.host(1, 1), 5);
        Due.is("through zone 2: host(2, 1)", x.host(2, 1), 2);
        x.zones(0, 2, 0);
        Due.is("in none: host(2, 1)", x.host(2, 1), 0);
        x.zones(0, 3, 0);
        Due.is("all empty again: host(2, 1)", x.host(2, 1), 3);
        Due.is("twos", x.count(7), 3);
        for (int h = 0; h < 4; h++) {
            Due.is("no host sees itself", x.host(h, 1) & 1 << h, 0);
        }
    }

    // "A HOST SEES another one, if both are at SWITCHES of one FABRIC": none that is nowhere
    private static void seesNowhere() {
        NamedFabric x = Due.told("s1 1 1;h-;h-;h0;");
        Due.is("nowhere: host(0, 1)", x.host(0, 1), 0);
        Due.is("at 0 alone: host(2, 1)", x.host(2, 1), 0);
        x.zones(0, 0, 7);
        Due.is("in one zone: host(0, 1)", x.host(0, 1), 0);
        Due.is("moves(0, 0)", x.moves(0, 0), NONE);
        Due.is("at 0: host(0, 1)", x.host(0, 1), 4);
        Due.is("moves(2, NONE)", x.moves(2, NONE), 0);
        Due.is("left: host(0, 1)", x.host(0, 1), 0);
    }

    // "each HOST that SEES now whom it did not see ahead of that, or the other way round, .. its NEWS are all these"
    private static void noticesOfBothSorts() {
        NamedFabric x = Due.told("s1 1 1;s1 2 2;h0;h0;h1;h1;h-;");
        x.moves(1, 1);
        int[] notices = {1, 1, 1, 1, 0};
        int[] news = {2, 13, 2, 2, 0};
        for (int h = 0; h < 5; h++) {
            Due.is("moved: host(" + h + ", 2)", x.host(h, 2), notices[h]);
            Due.is("moved: host(" + h + ", 3)", x.host(h, 3), news[h]);
        }
        Due.is("count(6)", x.count(6), 4);
        x.zones(0, 0, 4 | 1);
        Due.is("alone at 0: notices", x.count(6), 4);
        x.joins(0, 1);
        int[] then = {4, 12, 11, 6, 0};
        for (int h = 0; h < 5; h++) {
            Due.is("joined: host(" + h + ", 3)", x.host(h, 3), then[h]);
            Due.is("joined: host(" + h + ", 2)", x.host(h, 2), h < 4 ? 2 : 0);
        }
    }

    // "(they stay as they are till its next NOTICE)", "(0, and no NEWS, at first.)"
    private static void newsStay() {
        NamedFabric x = Due.told("s1 1 1;s1 2 2;h0;h1;h-;");
        for (int h = 0; h < 3; h++) {
            Due.is("at first: host(" + h + ", 2)", x.host(h, 2), 0);
            Due.is("at first: host(" + h + ", 3)", x.host(h, 3), 0);
        }
        x.joins(0, 1);
        x.zones(0, 0, 3);
        x.ranks(0, 9);
        x.renews(0);
        x.allows(1);
        Due.is("host(0, 3) stays", x.host(0, 3), 2);
        Due.is("host(0, 2) stays", x.host(0, 2), 1);
        x.zones(0, 0, 7);
        x.moves(2, 1);
        Due.is("host(0, 3) is another", x.host(0, 3), 4);
        Due.is("host(0, 2)", x.host(0, 2), 2);
        Due.is("host(2, 3)", x.host(2, 3), 3);
        x.cuts(0, 1);
        Due.is("the other way round: host(0, 3)", x.host(0, 3), 6);
        Due.is("the other way round: host(2, 3)", x.host(2, 3), 1);
    }

    // "each HOST that SEES now whom it did not see ahead of that, or the other way round": no other has a NOTICE
    private static void noNoticeWithoutChange() {
        NamedFabric x = chain("s1 1 1;s1 2 1;s1 3 3;h0;h1;h0;", 0, 1);
        int ahead = x.count(6);
        x.moves(0, 1);
        x.ranks(1, 9);
        x.renews(0);
        x.zones(0, 1, 7);
        x.zones(0, 2, 3);
        x.joins(2, 0);
        x.joins(2, 1);
        x.cuts(0, 1);
        Due.is("notices of moves within, of ranks, of a ring", x.count(6), ahead);
        Due.is("may be undone", x.count(10), 5);
    }

    // "has one NOTICE more": as many as 512 calls can bring
    private static void manyNotices() {
        NamedFabric x = Due.told("s1 1 1;h0;h0;");
        for (int i = 0; i < 150; i++) {
            x.moves(0, NONE);
            x.moves(0, 0);
        }
        Due.is("host(0, 2)", x.host(0, 2), 300);
        Due.is("host(1, 2)", x.host(1, 2), 300);
        Due.is("count(6)", x.count(6), 600);
    }

    // "(5 are known, older ones are lost)"
    private static void fiveAreKnown() {
        NamedFabric x = Due.told("s1 1 1;");
        for (int p = 2; p <= 9; p++) {
            x.ranks(0, p);
            Due.is("count(10)", x.count(10), Math.min(p, 5));
        }
        for (int left = 4; left >= 0; left--) {
            Due.is("undo()", x.undo(), left);
            Due.is("count(10)", x.count(10), left);
            Due.is("device(0, 0)", x.device(0, 0), left + 4);
        }
        Due.is("undo() of what is lost", x.undo(), STATE);
        Due.is("device(0, 0)", x.device(0, 0), 4);
    }

    private static int doneBy(NamedFabric x, int call) {
        switch (call) {
            case 0: return Due.tells(x, "s9 9 8;h0;");
            case 1: return x.joins(0, 2);
            case 2: return x.cuts(0, 1);
            case 3: return x.zones(0, 3, 1);
            case 4: return x.moves(1, NONE);
            case 5: return x.ranks(1, 1);
            case 6: return x.renews(0);
            case 7: return x.allows(0);
            case 8: return x.joins(0, 3);
            default: return x.cuts(1, 3);
        }
    }

    private static NamedFabric undoable() {
        NamedFabric x = chain("s5 1 0;s6 2 0;s7 3 1;s8 4 4;h0;h1;h2;h3;", 0, 1);
        x.zones(0, 0, 3);
        x.zones(3, 0, 5);
        x.joins(1, 3);
        x.ranks(0, 9);
        return x;
    }

    // "UNDONE: the latest tells(), joins(), cuts(), zones(), moves(), ranks(), renews(), allows() that was not refused"
    private static void eachCallIsUndone() {
        int[] answers = {2, 1, 4, 0, 1, 6, 2, 1, 0, 3};
        for (int call = 0; call < answers.length; call++) {
            NamedFabric x = undoable();
            String ahead = Due.asItIs(x);
            Due.is("call " + call, doneBy(x, call), answers[call]);
            Due.so("call " + call + " changes something", !Due.asItIs(x).equals(ahead));
            Due.is("count(10) behind call " + call, x.count(10), 5);
            Due.is("undo() of call " + call, x.undo(), 4);
            Due.same("call " + call + " undone", Due.asItIs(x), ahead);
        }
        NamedFabric y = undoable();
        y.back(0);
        y.keep(0);
        y.sees(0, 1, 1);
        y.forget();
        y.type('s');
        y.clear();
        y.tells();
        y.joins(0, 1);
        y.allows(1);
        Due.is("undo() passes over all else", y.undo(), 4);
        Due.is("device(0, 0)", y.device(0, 0), 5);
        Due.is("link(1, 3)", y.link(1, 3), 2);
        Due.is("undo()", y.undo(), 3);
        Due.is("link(1, 3)", y.link(1, 3), 0);
    }

    // "(5 are known, older ones are lost)", wherever among the five the latest stands
    private static void undoneAndDoneAgain() {
        NamedFabric x = new NamedFabric();
        Deque<Integer> known = new ArrayDeque<>();
        int priority = 5;
        for (int done = 0; done <= 6; done++) {
            for (int undone = 0; undone <= 6; undone++) {
                for (int i = 0; i < done; i++) {
                    known.addLast(priority);
                    if (known.size() > 5) {
                        known.removeFirst();
                    }
                    priority = priority % 9 + 1;
                    x.ranks(0, priority);
                }
                for (int i = 0; i < undone; i++) {
                    priority = known.isEmpty() ? priority : known.removeLast();
                    x.undo();
                    Due.is("undone " + i + " of " + undone + " behind " + done, x.device(0, 0), priority);
                }
                Due.is("count(10) behind " + done + ", " + undone, x.count(10), known.size());
            }
        }
    }

    // "all that 1 and 2 tell but THE TEXT is as ahead of it"
    private static void undoLeavesTheText() {
        NamedFabric x = Due.told("s1 1 1;");
        x.ranks(0, 2);
        Due.type(x, "s7 7 7;");
        Due.is("undo()", x.undo(), 1);
        Due.is("letters", x.count(9), 7);
        Due.is("tells()", x.tells(), 1);
        Due.is("undo() of tells()", x.undo(), 1);
        Due.is("letters stay gone", x.count(9), 0);
        Due.is("device(0, 0)", x.device(0, 0), 1);
        Due.is("undo()", x.undo(), 0);
        Due.is("as at first", x.device(0, 0), 5);
    }

    // "An object is used for at most 512 calls after it has been made"
    private static void the512thCall() {
        NamedFabric x = new NamedFabric();
        for (int i = 0; i < 255; i++) {
            Due.is("ranks(0, 9)", x.ranks(0, 9), 5);
            Due.is("ranks(0, 5)", x.ranks(0, 5), 9);
        }
        Due.is("call 511", x.ranks(0, 1), 5);
        Due.is("call 512", x.undo(), 4);
    }
}
