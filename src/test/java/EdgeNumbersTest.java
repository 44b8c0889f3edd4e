/**
 * "BAD (a number is not as told, or there is no such thing)": each number of each call at the last that is
 * allowed and the first that is not, on both sides, and at the least and the greatest int.
 */
final class EdgeNumbersTest {
    private static final int STATE = NamedFabric.STATE, NONE = NamedFabric.NONE;

    public static void main(String[] args) {
        Edges most = new Edges(EdgeNumbersTest::most);
        typeOfMost(most);
        joinsOfMost(most);
        cutsOfMost(most);
        zonesOfMost(most);
        movesOfMost(most);
        ranksOfMost(most);
        renewsAndAllowsOfMost(most);
        asItIsOfMost(most);
        wouldAndWeakestOfMost(most);
        whichLinkOfMost(most);
        imagesOfMost(most);
        alike(most);
        atFirst(new Edges(x -> { }));
        eachNumberOfSwitches();
        eachNumberOfHosts();
        Due.end();
    }

    /** As many switches and hosts as can be, something of each other sort, and five calls that may be undone. */
    private static void most(NamedFabric x) {
        Due.tells(x, "s5 10 1;s5 20 2;s5 30 3;s5 40 4;s5 50 5;s5 60 6;h0;h1;h2;h3;h4;h5;h0;h-;");
        x.ranks(3, 7);
        x.joins(0, 1);
        x.keep(0);
        x.joins(4, 5);
        x.keep(1);
        x.zones(0, 0, 3);
        x.sees(0, 1, 0);
        Due.type(x, "s1 1 1;");
    }

    private static void typeOfMost(Edges e) {
        e.of("type(?)", (x, n) -> x.type(n), 0, 8, 255, 8);
    }

    private static void joinsOfMost(Edges e) {
        e.of("joins(?, 3)", (x, n) -> x.joins(n, 3), 0, 1, 5, 1);
        e.of("joins(3, ?)", (x, n) -> x.joins(3, n), 0, 1, 5, 1);
    }

    private static void cutsOfMost(Edges e) {
        e.of("cuts(?, 1)", (x, n) -> x.cuts(n, 1), 0, 5, 5, STATE);
        e.of("cuts(1, ?)", (x, n) -> x.cuts(1, n), 0, 5, 5, STATE);
        e.of("cuts(?, 4)", (x, n) -> x.cuts(n, 4), 0, STATE, 5, 5);
        e.of("cuts(4, ?)", (x, n) -> x.cuts(4, n), 0, STATE, 5, 5);
    }

    private static void zonesOfMost(Edges e) {
        e.of("zones(?, 0, 1)", (x, n) -> x.zones(n, 0, 1), 0, 3, 5, 0);
        e.of("zones(0, ?, 1)", (x, n) -> x.zones(0, n, 1), 0, 3, 3, 0);
        e.of("zones(0, 0, ?)", (x, n) -> x.zones(0, 0, n), 0, 3, 255, 3);
        e.bad("zones(0, 0, ?)", (x, n) -> x.zones(0, 0, n), 256 + 3, 1 << 30, -256, Integer.MIN_VALUE + 3);
    }

    private static void movesOfMost(Edges e) {
        e.of("moves(?, 2)", (x, n) -> x.moves(n, 2), 0, 0, 7, NONE);
        e.of("moves(1, ?)", (x, n) -> x.moves(1, n), 0, 1, 5, 1);
        e.is("moves(1, NONE)", x -> x.moves(1, NONE), 1);
        e.is("moves(7, NONE)", x -> x.moves(7, NONE), STATE);
        e.bad("moves(1, ?)", (x, n) -> x.moves(1, n), NONE - 1, NONE + 1);
        e.bad("moves(7, ?)", (x, n) -> x.moves(7, n), NONE - 1, NONE + 1, -1);
        e.bad("moves(?, NONE)", (x, n) -> x.moves(n, NONE), -1, 8, NONE, Integer.MIN_VALUE, Integer.MAX_VALUE);
    }

    private static void ranksOfMost(Edges e) {
        e.of("ranks(?, 4)", (x, n) -> x.ranks(n, 4), 0, 5, 5, 5);
        e.of("ranks(3, ?)", (x, n) -> x.ranks(3, n), 1, 7, 9, 7);
    }

    private static void renewsAndAllowsOfMost(Edges e) {
        e.of("renews(?)", (x, n) -> x.renews(n), 0, 0, 5, 0);
        e.of("allows(?)", (x, n) -> x.allows(n), 0, STATE, 1, 1);
        Edges on = new Edges(x -> {
            most(x);
            x.allows(1);
        });
        on.of("allows(?) where it is on", (x, n) -> x.allows(n), 0, 1, 1, STATE);
    }

    private static void asItIsOfMost(Edges e) {
        e.of("device(?, 1)", (x, n) -> x.device(n, 1), 0, 10, 5, 60);
        e.of("device(0, ?)", (x, n) -> x.device(0, n), 0, 5, 7, 1 | 1 << 6);
        e.of("link(?, 1)", (x, n) -> x.link(n, 1), 0, 1, 5, 0);
        e.of("link(1, ?)", (x, n) -> x.link(1, n), 0, 1, 5, 0);
        e.of("link(?, 4)", (x, n) -> x.link(n, 4), 0, 0, 5, 1);
        e.of("link(4, ?)", (x, n) -> x.link(4, n), 0, 0, 5, 1);
        e.of("zone(?, 0)", (x, n) -> x.zone(n, 0), 0, 3, 5, 0);
        e.of("zone(0, ?)", (x, n) -> x.zone(0, n), 0, 3, 3, 0);
        e.of("host(?, 0)", (x, n) -> x.host(n, 0), 0, 0, 7, NONE);
        e.of("host(0, ?)", (x, n) -> x.host(0, n), 0, 0, 3, 1 << 6);
        e.of("count(?)", (x, n) -> x.count(n), 0, 6, 10, 5);
    }

    private static void wouldAndWeakestOfMost(Edges e) {
        e.of("would(?, 3)", (x, n) -> x.would(n, 3), 0, 1, 5, 1);
        e.of("would(3, ?)", (x, n) -> x.would(3, n), 0, 1, 5, 1);
        e.of("would(?, 1)", (x, n) -> x.would(n, 1), 0, STATE, 5, 1);
        e.of("weakest(?)", (x, n) -> x.weakest(n), 0, 1, 1, 1);
    }

    private static void whichLinkOfMost(Edges e) {
        e.of("sees(?, 3, 1)", (x, n) -> x.sees(n, 3, 1), 0, 2, 7, 2);
        e.of("sees(3, ?, 1)", (x, n) -> x.sees(3, n, 1), 0, 2, 7, 2);
        e.of("sees(0, 1, ?)", (x, n) -> x.sees(0, 1, n), 0, 2, 1, 2);
        e.of("which(?)", (x, n) -> x.which(n), 0, 1, 1, 1);
    }

    private static void imagesOfMost(Edges e) {
        e.of("keep(?)", (x, n) -> x.keep(n), 0, 4, 1, 4);
        e.of("back(?)", (x, n) -> x.back(n), 0, 5, 1, 4);
    }

    // "BAD (a and b alike, too)", "BAD (g, h 0 .. 7, unlike)"
    private static void alike(Edges e) {
        for (int a = 0; a < 6; a++) {
            e.bad("joins(?, ?)", (x, n) -> x.joins(n, n), a);
            e.bad("cuts(?, ?)", (x, n) -> x.cuts(n, n), a);
            e.bad("link(?, ?)", (x, n) -> x.link(n, n), a);
            e.bad("would(?, ?)", (x, n) -> x.would(n, n), a);
        }
        for (int g = 0; g < 8; g++) {
            e.bad("sees(?, ?, 0)", (x, n) -> x.sees(n, n, 0), g);
            e.bad("sees(?, ?, 1)", (x, n) -> x.sees(n, n, 1), g);
        }
        for (int n : new int[] {-1, 6, 8, NONE, Integer.MIN_VALUE, Integer.MAX_VALUE}) {
            e.bad("joins(?, ?)", (x, m) -> x.joins(m, m), n);
            e.bad("cuts(?, ?)", (x, m) -> x.cuts(m, m), n);
            e.bad("sees(?, ?, 1)", (x, m) -> x.sees(m, m, 1), n);
        }
    }

    private static void atFirst(Edges e) {
        e.of("new: device(?, 0)", (x, n) -> x.device(n, 0), 0, 5, 0, 5);
        e.of("new: zone(?, 3)", (x, n) -> x.zone(n, 3), 0, 0, 0, 0);
        e.of("new: zones(0, 3, ?)", (x, n) -> x.zones(0, 3, n), 0, STATE, 0, STATE);
        e.of("new: ranks(?, 9)", (x, n) -> x.ranks(n, 9), 0, 5, 0, 5);
        e.of("new: renews(?)", (x, n) -> x.renews(n), 0, 0, 0, 0);
        e.of("new: sees(?, 7, 1)", (x, n) -> x.sees(n, 7, 1), 0, 1, 6, 1);
        e.of("new: keep(?)", (x, n) -> x.keep(n), 0, 1, 1, 1);
        e.of("new: back(?)", (x, n) -> x.back(n), 0, STATE, 1, STATE);
        e.of("new: weakest(?)", (x, n) -> x.weakest(n), 0, NONE, 1, NONE);
        e.of("new: which(?)", (x, n) -> x.which(n), 0, 0, 1, NONE);
        int[] none = {-1, 0, 1, NONE, Integer.MIN_VALUE, Integer.MAX_VALUE};
        e.bad("new: host(?, 0)", (x, n) -> x.host(n, 0), none);
        e.bad("new: moves(?, 0)", (x, n) -> x.moves(n, 0), none);
        e.bad("new: moves(?, NONE)", (x, n) -> x.moves(n, NONE), none);
        e.bad("new: joins(0, ?)", (x, n) -> x.joins(0, n), none);
        e.bad("new: joins(?, 0)", (x, n) -> x.joins(n, 0), none);
        e.bad("new: cuts(0, ?)", (x, n) -> x.cuts(0, n), none);
        e.bad("new: link(0, ?)", (x, n) -> x.link(0, n), none);
        e.bad("new: would(0, ?)", (x, n) -> x.would(0, n), none);
    }

    private static String text(int switches, int hosts) {
        StringBuilder text = new StringBuilder();
        for (int a = 0; a < switches; a++) {
            text.append('s').append(a + 1).append(' ').append(a).append(' ').append(a + 1).append(';');
        }
        return text.append("h0;".repeat(hosts)).toString();
    }

    private static void eachNumberOfSwitches() {
        for (int switches = 2; switches <= 6; switches++) {
            int last = switches - 1;
            String text = text(switches, 2);
            Edges e = new Edges(x -> Due.tells(x, text));
            e.of("device(?, 0) of " + switches, (x, n) -> x.device(n, 0), 0, 1, last, last + 1);
            e.of("zone(?, 0) of " + switches, (x, n) -> x.zone(n, 0), 0, 0, last, 0);
            e.of("zones(?, 0, 3) of " + switches, (x, n) -> x.zones(n, 0, 3), 0, 0, last, 0);
            e.of("moves(1, ?) of " + switches, (x, n) -> x.moves(1, n), 0, STATE, last, 0);
            e.of("ranks(?, 9) of " + switches, (x, n) -> x.ranks(n, 9), 0, 1, last, last + 1);
            e.of("renews(?) of " + switches, (x, n) -> x.renews(n), 0, 0, last, 0);
            e.of("joins(0, ?) of " + switches, (x, n) -> x.joins(0, n), 1, 1, last, 1);
            e.of("joins(?, 0) of " + switches, (x, n) -> x.joins(n, 0), 1, 1, last, 1);
            e.of("cuts(0, ?) of " + switches, (x, n) -> x.cuts(0, n), 1, STATE, last, STATE);
            e.of("cuts(?, 0) of " + switches, (x, n) -> x.cuts(n, 0), 1, STATE, last, STATE);
            e.of("link(0, ?) of " + switches, (x, n) -> x.link(0, n), 1, 0, last, 0);
            e.of("link(?, 0) of " + switches, (x, n) -> x.link(n, 0), 1, 0, last, 0);
            e.of("would(0, ?) of " + switches, (x, n) -> x.would(0, n), 1, 1, last, 1);
            e.of("would(?, 0) of " + switches, (x, n) -> x.would(n, 0), 1, 1, last, 1);
        }
    }

    // "a set (bits of HOSTS that there are)"
    private static void eachNumberOfHosts() {
        for (int hosts = 1; hosts <= 8; hosts++) {
            int last = hosts - 1;
            int every = (1 << hosts) - 1;
            String text = text(2, hosts);
            Edges e = new Edges(x -> Due.tells(x, text));
            e.of("host(?, 0) of " + hosts, (x, n) -> x.host(n, 0), 0, 0, last, 0);
            e.of("moves(?, 1) of " + hosts, (x, n) -> x.moves(n, 1), 0, 0, last, 0);
            e.of("moves(?, NONE) of " + hosts, (x, n) -> x.moves(n, NONE), 0, 0, last, 0);
            e.of("zones(0, 0, ?) of " + hosts, (x, n) -> x.zones(0, 0, n), 0, STATE, every, 0);
            e.bad("zones(0, 0, ?) of " + hosts, (x, n) -> x.zones(0, 0, n), 1 | 1 << hosts, 1 << 8, 1 << 30);
            e.of("sees(?, 0, 1) of " + hosts, (x, n) -> x.sees(n, 0, 1), 1, 1, 7, 1);
        }
    }
}
