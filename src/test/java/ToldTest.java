/** Promises 1 to 4: a new object, type, clear, tells. */
final class ToldTest {
    public static void main(String[] args) {
        newObject();
        typing();
        clearing();
        telling();
        faultsOfTokens();
        faultsOfItems();
        faultsOfNumbers();
        faultsOfEnds();
        refusals();
        whatATextDrops();
        Due.end();
    }

    private static void newObject() {
        NamedFabric x = new NamedFabric();
        int[] counts = {1, 0, 1, 0, 0, 0, 0, 0, 0, 0, 0};
        for (int what = 0; what < counts.length; what++) {
            Due.is("new: count(" + what + ")", x.count(what), counts[what]);
        }
        int[] device = {5, 0, 0, 1, 0, 0, 1, 0};
        for (int what = 0; what < device.length; what++) {
            Due.is("new: device(0, " + what + ")", x.device(0, what), device[what]);
        }
        for (int z = 0; z < 4; z++) {
            Due.is("new: zone(0, " + z + ")", x.zone(0, z), 0);
        }
        Due.is("new: device(1, 0)", x.device(1, 0), NamedFabric.BAD);
        Due.is("new: host(0, 0)", x.host(0, 0), NamedFabric.BAD);
        Due.is("new: undo()", x.undo(), NamedFabric.STATE);
        Due.is("new: back(0)", x.back(0), NamedFabric.STATE);
        Due.is("new: back(1)", x.back(1), NamedFabric.STATE);
        Due.is("new: weakest(0)", x.weakest(0), NamedFabric.NONE);
        Due.is("new: which(0)", x.which(0), 0);
        Due.is("new: ask()", x.ask(), NamedFabric.NONE);
    }

    private static void typing() {
        NamedFabric x = new NamedFabric();
        Due.is("type(-1)", x.type(-1), NamedFabric.BAD);
        Due.is("type(256)", x.type(256), NamedFabric.BAD);
        Due.is("type(least)", x.type(Integer.MIN_VALUE), NamedFabric.BAD);
        Due.is("type(greatest)", x.type(Integer.MAX_VALUE), NamedFabric.BAD);
        Due.is("type(0)", x.type(0), 1);
        Due.is("type(255)", x.type(255), 2);
        for (int i = 3; i <= 100; i++) {
            Due.is("type(32) as letter " + i, x.type(32), i);
        }
        Due.is("type(32) as letter 101", x.type(32), NamedFabric.FULL);
        Due.is("type(256) when full", x.type(256), NamedFabric.BAD);
        Due.is("count(9)", x.count(9), 100);
    }

    private static void clearing() {
        NamedFabric x = new NamedFabric();
        Due.is("clear() of none", x.clear(), 0);
        Due.type(x, "s1 1 1;");
        Due.is("clear() of 7", x.clear(), 7);
        Due.is("count(9)", x.count(9), 0);
        Due.is("clear() again", x.clear(), 0);
        Due.is("tells() of nothing", x.tells(), -10);
        Due.is("type behind clear", x.type('s'), 1);
    }

    private static void telling() {
        NamedFabric x = new NamedFabric();
        Due.is("tells()", Due.tells(x, "  s 9 99 8 ; s1 0 0;h 1;h-;h0 ;  "), 5);
        Due.is("count(9)", x.count(9), 0);
        int[][] devices = {{9, 99, 8, 8, 0, 0, 1, 4}, {1, 0, 0, 1, 1, 0, 2, 1}};
        for (int a = 0; a < 2; a++) {
            for (int what = 0; what < 8; what++) {
                Due.is("told: device(" + a + ", " + what + ")", x.device(a, what), devices[a][what]);
            }
        }
        int[][] hosts = {{1, 0, 0, 0}, {NamedFabric.NONE, 0, 0, 0}, {0, 0, 0, 0}};
        for (int h = 0; h < 3; h++) {
            for (int what = 0; what < 4; what++) {
                Due.is("told: host(" + h + ", " + what + ")", x.host(h, what), hosts[h][what]);
            }
        }
        Due.is("told: link(0, 1)", x.link(0, 1), 0);
        Due.is("told: count(10)", x.count(10), 1);
        String most = "s1 1 1;s1 2 1;s1 3 1;s1 4 1;s1 5 1;s1 6 1;h0;h1;h2;h3;h4;h5;h-;h0;";
        Due.is("tells() of the most items", Due.tells(x, most), 14);
        Due.is("tells() of 100 letters", Due.tells(x, "s1 1 1;" + " ".repeat(93)), 1);
    }

    private static void fault(String text, int place) {
        NamedFabric x = new NamedFabric();
        Due.is("tells() of '" + text + "'", Due.tells(x, text), -10 - place);
        Due.is("letters of '" + text + "'", x.count(9), text.length());
        Due.is("tells() again of '" + text + "'", x.tells(), -10 - place);
    }

    private static void faultsOfTokens() {
        fault("x", 0);
        fault(" \t", 1);
        fault("S1 1 1;", 0);
        fault("-;", 0);
        fault(";", 0);
        fault("1;", 0);
        fault("s1 1 1;;", 7);
        fault("s;", 1);
        fault("s s", 2);
        fault("s-", 1);
        fault("s1;", 2);
        fault("s1 1;", 4);
        fault("s1 1 1 1;", 7);
        fault("s1 1 1-;", 6);
        fault("s1 1 1;h;", 8);
        fault("s1 1 1;hh", 8);
        fault("s1 1 1;h--;", 9);
        fault("s1 1 1;h-0;", 9);
        fault("s1 1 1;h0 0;", 10);
        fault("s1 1 1;h0" + (char) 160 + ";", 9);
        fault("s1 1 1," + (char) 0, 6);
    }

    private static void faultsOfItems() {
        fault("h0;", 0);
        fault("  h-;", 2);
        fault("s1 1 1;h0;s1 2 1;", 10);
        String six = "s1 1 1;s1 2 1;s1 3 1;s1 4 1;s1 5 1;s1 6 1;";
        fault(six + "s1 7 1;", 42);
        fault(six + " s", 43);
        fault("s1 1 1;" + "h0;".repeat(8) + " h0;", 32);
    }

    private static void faultsOfNumbers() {
        fault("s0 1 1;", 1);
        fault("s10 1 1;", 1);
        fault("s01 1 1;", 1);
        fault("s1 100 1;", 3);
        fault("s1 00 1;", 3);
        fault("s1 07 1;", 3);
        fault("s1 1 9;", 5);
        fault("s1 1 08;", 5);
        fault("s1 7 1;s2 7 1;", 10);
        fault("s1 7 1;s2 8 1;s3 7 0;", 17);
        fault("s1 1 1;h1;", 8);
        fault("s1 1 1;s1 2 1;h2;", 15);
        fault("s1 1 1;h00;", 8);
        fault("s1 4294967297 1;", 3);
        fault("s1 " + "9".repeat(97), 3);
        fault("s1 1 1 100", 7);
        fault("s1 1 9x", 5);
        fault("s s 100", 2);
    }

    private static void faultsOfEnds() {
        fault("", 0);
        fault("   ", 3);
        fault("s", 1);
        fault("s  ", 3);
        fault("s1", 2);
        fault("s1 1", 4);
        fault("s1 1 1", 6);
        fault("s1 1 1  ", 8);
        fault("s1 1 1;h", 8);
        fault("s1 1 1;h0", 9);
        fault("s1 1 1;h- ", 10);
        fault("s1 1 1;" + " ".repeat(92) + "h", 100);
    }

    private static void refusals() {
        Due.refused(x -> {
            Due.tells(x, "s1 1 1;s2 2 2;h0;h1;");
            x.joins(0, 1);
            x.zones(0, 1, 3);
            x.keep(1);
            x.sees(0, 1, 0);
            Due.type(x, "s1 1 1;s2 1 1;");
        }, "tells() with a fault", x -> x.tells(), -20);
        Due.refused(x -> Due.tells(x, "s1 1 1;"), "type(256)", x -> x.type(256), NamedFabric.BAD);
        Due.refused(x -> Due.type(x, "s".repeat(100)), "type('s')", x -> x.type('s'), NamedFabric.FULL);
    }

    private static void whatATextDrops() {
        NamedFabric x = Due.told("s1 1 1;s1 2 2;h0;h1;");
        x.allows(1);
        x.joins(0, 1);
        x.zones(0, 0, 3);
        x.sees(0, 1, 1);
        x.keep(0);
        x.keep(1);
        Due.is("count(10)", x.count(10), 4);
        Due.is("tells()", Due.tells(x, "s1 1 1;s1 2 2;h0;h1;"), 4);
        int[] counts = {2, 2, 2, 0, 0, 0, 0, 0, 0, 0, 5};
        for (int what = 0; what < counts.length; what++) {
            Due.is("told anew: count(" + what + ")", x.count(what), counts[what]);
        }
        Due.is("told anew: zone(0, 0)", x.zone(0, 0), 0);
        Due.is("told anew: back(0)", x.back(0), NamedFabric.STATE);
        Due.is("told anew: back(1)", x.back(1), NamedFabric.STATE);
        Due.type(x, "s");
        Due.is("undo() of tells()", x.undo(), 4);
        Due.is("link(0, 1)", x.link(0, 1), 1);
        Due.is("zone(1, 0)", x.zone(1, 0), 3);
        Due.is("count(5)", x.count(5), 1);
        Due.is("host(0, 2)", x.host(0, 2), 1);
        Due.is("what was seen stays gone", x.count(8), 0);
        Due.is("images stay gone", x.back(0), NamedFabric.STATE);
        Due.is("the text stays", x.count(9), 1);
    }
}
