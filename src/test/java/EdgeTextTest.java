/** The sentences of part 1 that name a boundary case: switches and hosts at first, THE TEXT, FAULT, a text told. */
final class EdgeTextTest {
    private static final int STATE = NamedFabric.STATE, NONE = NamedFabric.NONE;
    private static final String SIX = "s1 1 1;s2 2 2;s3 3 3;s4 4 4;s5 5 5;s6 6 6;";

    public static void main(String[] args) {
        atFirst();
        oneToSixSwitches();
        eightHostsAtMost();
        hundredLettersAtMost();
        blanks();
        blanksNeededBetweenNumbersOnly();
        otherLettersAreNoBlanks();
        otherLettersStandNowhere();
        lettersThatCanNotStandThere();
        seventhSwitch();
        ninthHost();
        orderOfItems();
        namesToldAlready();
        numbersBeyond();
        numbersThatWrapAround();
        zerosAhead();
        theFirstOfSeveralFaults();
        endsTooEarly();
        whatATextTells();
        whatATextDrops();
        aTextIsEmptyThen();
        Due.end();
    }

    private static NamedFabric items(String text, int items) {
        NamedFabric x = new NamedFabric();
        Due.is("tells() of '" + text + "'", Due.tells(x, text), items);
        return x;
    }

    private static void fault(String text, int place) {
        NamedFabric x = new NamedFabric();
        Due.is("tells() of '" + text + "'", Due.tells(x, text), -10 - place);
        Due.is("letters behind '" + text + "'", x.count(9), text.length());
        Due.is("priority behind '" + text + "'", x.device(0, 0), 5);
    }

    // "At first there is SWITCH 0 of PRIORITY 5, NAME 0, that WANTS any BLOCK, has BLOCK 1; no HOSTS."
    private static void atFirst() {
        NamedFabric x = new NamedFabric();
        int[] device = {5, 0, 0, 1, 0, 0, 1, 0};
        for (int what = 0; what < device.length; what++) {
            Due.is("at first: device(0, " + what + ")", x.device(0, what), device[what]);
        }
        Due.is("at first: switches", x.count(0), 1);
        Due.is("at first: hosts", x.count(1), 0);
        Due.is("at first: letters", x.count(9), 0);
        Due.is("at first: RENEW", x.count(5), 0);
        Due.is("a NAME of what was at first is told anew", Due.tells(x, "s1 0 0;"), 1);
    }

    // "SWITCHES 0, 1, .. (1 to 6)", "one at least"
    private static void oneToSixSwitches() {
        Due.is("one switch", items(SIX.substring(0, 7), 1).count(0), 1);
        for (int n = 2; n <= 6; n++) {
            Due.is(n + " switches", items(SIX.substring(0, 7 * n), n).count(0), n);
        }
        fault("", 0);
        fault("h-;", 0);
    }

    // "HOSTS 0, 1, .. (8 at most) are at a SWITCH, or nowhere."
    private static void eightHostsAtMost() {
        for (int n = 0; n <= 8; n++) {
            NamedFabric x = items("s1 1 1;" + "h-;".repeat(n), 1 + n);
            Due.is(n + " hosts", x.count(1), n);
            NamedFabric y = items(SIX + "h5;".repeat(n), 6 + n);
            Due.is(n + " hosts at 5", y.device(5, 7), (1 << n) - 1);
        }
    }

    // "THE TEXT is told letter by letter (100 letters at most)"
    private static void hundredLettersAtMost() {
        String most = SIX + "h0;".repeat(8);
        String spread = most.substring(0, most.length() - 1) + " ".repeat(100 - most.length()) + ";";
        Due.is("letters", spread.length(), 100);
        items(spread, 14);
        items(most + " ".repeat(100 - most.length()), 14);
        items(" ".repeat(100 - most.length()) + most, 14);
        fault(spread.substring(0, 99) + "x", 99);
        fault(spread.substring(0, 99) + " ", 100);
        fault(spread.substring(0, 99), 99);
        NamedFabric x = new NamedFabric();
        Due.type(x, "s1 1 1" + " ".repeat(94));
        Due.is("a letter beyond", x.type(';'), NamedFabric.FULL);
        Due.is("is not told", x.tells(), -110);
        NamedFabric y = new NamedFabric();
        Due.type(y, "s1 1 1;" + " ".repeat(93));
        Due.is("a letter beyond", y.type('x'), NamedFabric.FULL);
        Due.is("is not told", y.tells(), 1);
    }

    // "blanks (32), any number, ahead of, between, behind TOKENS"
    private static void blanks() {
        items(" s1 1 1;", 1);
        items("s1 1 1; ", 1);
        items("s1 1 1 ;", 1);
        items("s 1 1 1;", 1);
        items("s1  1   1;", 1);
        items("   s   1   99   8   ;   h   0   ;   h   -   ;   ", 3);
        Due.is("blanks part nothing else", items(" s 9  99  8 ; h 0 ; ", 2).device(0, 1), 99);
        fault("s1 9 9 8;", 5);
        fault("s1 1 1; ;", 8);
    }

    // "(needed only between two NUMBERS)"
    private static void blanksNeededBetweenNumbersOnly() {
        items("s1 1 1;s2 2 2;h0;h-;h1;", 5);
        fault("s1 11;", 5);
        fault("s11 1;", 1);
        fault("s111;", 1);
        fault("s1 111;", 3);
    }

    // "blanks (32)": what looks like one is none
    private static void otherLettersAreNoBlanks() {
        int[] letters = {0, 9, 10, 11, 12, 13, 31, 33, 127, 128, 133, 160, 255};
        for (int letter : letters) {
            char c = (char) letter;
            fault(c + "s1 1 1;", 0);
            fault("s" + c + "1 1 1;", 1);
            fault("s1" + c + "1 1;", 2);
            fault("s1 1" + c + "1;", 4);
            fault("s1 1 1" + c + ";", 6);
            fault("s1 1 1;" + c, 7);
            fault("s1 1 1;h" + c + "0;", 8);
        }
    }

    // "of any other letter (each is a TOKEN by itself) .. that TOKEN's"
    private static void otherLettersStandNowhere() {
        for (int letter = 0; letter < 256; letter++) {
            if (letter == ' ' || letter == 's' || letter == 'h' || letter == '-' || letter == ';'
                || letter >= '0' && letter <= '9') {
                continue;
            }
            char c = (char) letter;
            fault("" + c, 0);
            fault("" + c + c, 0);
            fault("s1 1 1;" + c + "1", 7);
            fault("s1 1 1;  " + c + c, 9);
            fault("s1 1" + c + "1 1;", 4);
            fault("s" + c, 1);
            fault("s1 1 1" + c, 6);
            fault("s1 1 1;h" + c + ";", 8);
            fault("s1 1 1;h0" + c + ";", 9);
        }
    }

    // "the place of the first letter of the first TOKEN that can't stand there"
    private static void lettersThatCanNotStandThere() {
        String[] aheadOf = {"", "s", "s1 ", "s1 1 ", "s1 1 1 ", "s1 1 1;", "s1 1 1;h", "s1 1 1;h0 ",
            "s1 1 1;h-"};
        String[] can = {"s", "1", "10", "10", ";", "sh", "0-", ";", ";"};
        for (int i = 0; i < aheadOf.length; i++) {
            for (String token : new String[] {"s", "h", "-", ";", "1", "0"}) {
                String ahead = aheadOf[i];
                if (!can[i].contains(token)) {
                    fault(ahead + token, ahead.length());
                    fault(ahead + "  " + token + ";", ahead.length() + 2);
                } else {
                    fault(ahead + token + "x", ahead.length() + 1);
                }
            }
        }
    }

    // "a seventh s"
    private static void seventhSwitch() {
        items(SIX, 6);
        fault(SIX + "s", 42);
        fault(SIX + "s7 7 7;", 42);
        fault(SIX + "  s7 7 7;", 44);
        items(SIX + "h5;", 7);
    }

    // "a ninth h"
    private static void ninthHost() {
        String eight = "s1 1 1;" + "h0;h-;".repeat(4);
        items(eight, 9);
        fault(eight + "h", 31);
        fault(eight + "h0;", 31);
        fault(eight + "  h-;", 33);
    }

    // "an s behind an h, an h ahead of any s"
    private static void orderOfItems() {
        fault("s1 1 1;h0;s", 10);
        fault("s1 1 1;h-; s2 2 2;", 11);
        fault("h", 0);
        fault("  h0;", 2);
        fault("h0;s1 1 1;", 0);
        items("s1 1 1;s2 2 2;h0;", 3);
    }

    // "a NAME told already"
    private static void namesToldAlready() {
        fault("s1 0 1;s2 0 2;", 10);
        fault("s1 99 1;s2 99 2;", 11);
        fault("s1 7 1;s2 8 2;s3 7", 17);
        fault("s1 1 1;s2 2 2;s3 3 3;s4 4 4;s5 5 5;s6 1 6;", 38);
        fault("s1 1 1;s2 2 2;s3 3 3;s4 4 4;s5 5 5;s6 5 6;", 38);
        items("s1 1 1;s1 11 1;s1 10 1;s1 0 1;", 4);
        NamedFabric x = items("s1 7 1;", 1);
        Due.is("a NAME of the text ahead", Due.tells(x, "s1 8 1;s1 7 1;"), 2);
        Due.is("a faulty text", Due.tells(x, "s1 5 1;s1 6 1;x"), -24);
        Due.is("NAMES of a faulty text", Due.tells(x, "s1 6 1;s1 5 1;"), 2);
    }

    // PRIORITY (1 to 9), NAME (0 to 99), WANT a BLOCK (1 to 8), or any (0); "h S (the next HOST: its SWITCH)"
    private static void numbersBeyond() {
        for (int n = 0; n <= 110; n++) {
            number("s", n, " 1 1;", 1, 9);
            number("s1 ", n, " 1;", 0, 99);
            number("s1 1 ", n, ";", 0, 8);
            for (int switches = 1; switches <= 6; switches++) {
                number(SIX.substring(0, 7 * switches) + "h", n, ";", 0, switches - 1);
            }
        }
    }

    private static void number(String ahead, int n, String behind, int least, int most) {
        if (n >= least && n <= most) {
            Due.so("'" + ahead + n + behind + "' is told", Due.tells(new NamedFabric(), ahead + n + behind) > 0);
        } else {
            fault(ahead + n + behind, ahead.length());
        }
    }

    // "a NUMBER above 99": rows of figures that a short, an int or a long would wrap around
    private static void numbersThatWrapAround() {
        String[] ones = {"257", "65537", "4294967297", "18446744073709551617", "1" + "0".repeat(79) + "1"};
        for (String one : ones) {
            fault("s" + one + " 1 1;", 1);
            fault("s1 " + one + " 1;", 3);
            fault("s1 1 " + one + ";", 5);
            fault("s1 1 1;s1 2 2;h" + one + ";", 15);
        }
        fault("s1 " + "1".repeat(97), 3);
        fault("9".repeat(100), 0);
    }

    // "or with a 0 ahead of others"
    private static void zerosAhead() {
        for (String zeros : new String[] {"00", "01", "09", "000", "001", "010", "0".repeat(50)}) {
            fault("s" + zeros + " 1 1;", 1);
            fault("s1 " + zeros + " 1;", 3);
            fault("s1 1 " + zeros + ";", 5);
            fault("s1 1 1;s1 2 1;h" + zeros + ";", 15);
        }
        items("s1 0 0;h0;", 2);
        items("s1 10 0;s1 90 0;", 2);
    }

    // "FAULT: the place of .. the first TOKEN that can't stand there", whichever sort it is of
    private static void theFirstOfSeveralFaults() {
        fault("x100", 0);
        fault("100x", 0);
        fault("s100 x", 1);
        fault("s1 1 9x", 5);
        fault("s1 1 1;h0;s1 1 9;x", 10);
        fault("s s x 100", 2);
        fault("s1 1 1 x", 7);
    }

    // "the text's length, if it ends too early (one that is empty, too)"
    private static void endsTooEarly() {
        fault("", 0);
        fault(" ", 1);
        fault(" ".repeat(100), 100);
        String text = "s9 99 8;s1 0 0;h1;h-;";
        for (int length = 0; length <= text.length(); length++) {
            String begun = text.substring(0, length);
            if (begun.endsWith(";")) {
                items(begun, begun.split(";").length);
                items(begun + "  ", begun.split(";").length);
            } else {
                fault(begun, length);
                fault(begun + "  ", length + 2);
            }
        }
    }

    // "(the next SWITCH: PRIORITY, NAME, what it WANTS ..)", "(the next HOST: its SWITCH) or h - (nowhere)"
    private static void whatATextTells() {
        NamedFabric x = items("s9 99 8;s1 0 0;s5 50 1;h2;h-;h0;h2;", 7);
        int[][] devices = {{9, 99, 8, 8, 0, 0, 1, 4}, {1, 0, 0, 1, 1, 0, 2, 0}, {5, 50, 1, 1, 2, 0, 4, 9}};
        for (int a = 0; a < 3; a++) {
            for (int what = 0; what < 8; what++) {
                Due.is("told: device(" + a + ", " + what + ")", x.device(a, what), devices[a][what]);
            }
        }
        int[] places = {2, NONE, 0, 2};
        for (int h = 0; h < 4; h++) {
            Due.is("told: host(" + h + ", 0)", x.host(h, 0), places[h]);
        }
    }

    private static NamedFabric full() {
        NamedFabric x = Due.told("s1 1 1;s2 2 2;s3 3 1;s4 4 4;h0;h1;h2;h3;");
        x.joins(0, 1);
        x.joins(1, 2);
        x.joins(1, 3);
        x.allows(1);
        for (int z = 0; z < 4; z++) {
            x.zones(0, z, 15 - z);
            x.zones(2, z, 1 + z);
        }
        x.moves(3, 0);
        x.keep(0);
        x.keep(1);
        x.sees(0, 1, 1);
        return x;
    }

    // "(A text told: each SWITCH has the BLOCK that it WANTS, 1 if any; no LINKS, ZONES empty, RENEW off, no NOTICES.)"
    private static void whatATextDrops() {
        NamedFabric x = full();
        Due.so("there were notices", x.count(6) > 0);
        Due.is("tells()", Due.tells(x, "s1 1 0;s2 2 8;s3 3 8;s4 4 0;h0;h1;h2;h3;"), 8);
        int[] blocks = {1, 8, 8, 1};
        for (int a = 0; a < 4; a++) {
            Due.is("told anew: device(" + a + ", 3)", x.device(a, 3), blocks[a]);
            for (int z = 0; z < 4; z++) {
                Due.is("told anew: zone(" + a + ", " + z + ")", x.zone(a, z), 0);
            }
            for (int b = 0; b < 4; b++) {
                Due.is("told anew: link", x.link(a, b), a == b ? NamedFabric.BAD : 0);
            }
            Due.is("told anew: host(" + a + ", 2)", x.host(a, 2), 0);
            Due.is("told anew: host(" + a + ", 3)", x.host(a, 3), 0);
        }
        Due.is("told anew: RENEW", x.count(5), 0);
        Due.is("told anew: fabrics", x.count(2), 4);
        // "(A text told: what was SEEN, IMAGES are gone.)"
        Due.is("told anew: SEEN", x.count(8), 0);
        Due.is("told anew: back(0)", x.back(0), STATE);
        Due.is("told anew: back(1)", x.back(1), STATE);
        Due.is("told anew: may be undone", x.count(10), 5);
        NamedFabric y = full();
        Due.is("fewer switches and hosts", Due.tells(y, "s1 1 1;"), 1);
        Due.is("fewer: host(0, 0)", y.host(0, 0), NamedFabric.BAD);
        Due.is("more again", Due.tells(y, "s1 1 1;s2 2 2;s3 3 1;s4 4 4;h0;h1;h2;h3;"), 8);
        Due.is("more again: notices", y.count(6), 0);
        Due.is("more again: links", y.count(3) + y.count(4), 0);
        Due.is("more again: zone(2, 3)", y.zone(2, 3), 0);
    }

    // "THE TEXT tells all anew, and is empty then"
    private static void aTextIsEmptyThen() {
        NamedFabric x = items("s1 1 1;", 1);
        Due.is("letters", x.count(9), 0);
        Due.is("tells() of nothing", x.tells(), -10);
        Due.is("a letter of the next", x.type('s'), 1);
        Due.is("tells() of it", x.tells(), -11);
        Due.is("clear()", x.clear(), 1);
        Due.is("clear() of none", x.clear(), 0);
    }
}
