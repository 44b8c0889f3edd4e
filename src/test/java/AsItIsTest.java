/** Promises 13 to 16: device, link, zone, host. */
final class AsItIsTest {
    private static final int BAD = NamedFabric.BAD, NONE = NamedFabric.NONE;

    public static void main(String[] args) {
        devices();
        principals();
        links();
        zonesOfFabrics();
        hosts();
        wrongNumbers();
        Due.end();
    }

    private static NamedFabric made() {
        NamedFabric x = Due.told("s7 40 3;s2 9 0;s2 8 5;s1 1 4;h0;h2;h0;h-;h3;");
        x.joins(0, 1);
        x.joins(1, 2);
        x.zones(2, 0, 5);
        x.zones(3, 2, 16);
        return x;
    }

    private static void devices() {
        NamedFabric x = made();
        int[][] due = {
            {7, 40, 3, 3, 2, 2, 7, 5},
            {2, 9, 0, 1, 2, 1, 7, 0},
            {2, 8, 5, 5, 2, 0, 7, 2},
            {1, 1, 4, 4, 3, 0, 8, 16}};
        for (int a = 0; a < 4; a++) {
            for (int what = 0; what < 8; what++) {
                Due.is("device(" + a + ", " + what + ")", x.device(a, what), due[a][what]);
            }
        }
        x.joins(0, 2);
        Due.is("device(0, 5) by a shorter way", x.device(0, 5), 1);
        x.joins(0, 3);
        Due.is("device(1, 4)", x.device(1, 4), 3);
        Due.is("device(1, 5)", x.device(1, 5), 2);
        Due.is("device(1, 6)", x.device(1, 6), 15);
    }

    private static void principals() {
        NamedFabric x = Due.told("s3 50 1;s3 7 2;s2 99 3;");
        x.joins(0, 1);
        Due.is("the lower name of like priorities", x.device(0, 4), 1);
        x.joins(0, 2);
        Due.is("the lowest priority ahead of the name", x.device(1, 4), 2);
        Due.is("device(1, 5)", x.device(1, 5), 2);
    }

    private static void links() {
        NamedFabric x = Due.told("s1 1 1;s1 2 2;s1 3 2;");
        Due.is("link(0, 1)", x.link(0, 1), 0);
        x.joins(0, 1);
        Due.is("link(0, 1)", x.link(0, 1), 1);
        Due.is("link(1, 0)", x.link(1, 0), 1);
        x.joins(2, 1);
        Due.is("link(1, 2)", x.link(1, 2), 2);
        Due.is("link(2, 1)", x.link(2, 1), 2);
        Due.is("a clashed link joins no fabrics", x.device(2, 6), 4);
        Due.is("link(0, 2)", x.link(0, 2), 0);
    }

    private static void zonesOfFabrics() {
        NamedFabric x = made();
        int[][] due = {{5, 0, 0, 0}, {5, 0, 0, 0}, {5, 0, 0, 0}, {0, 0, 16, 0}};
        for (int a = 0; a < 4; a++) {
            for (int z = 0; z < 4; z++) {
                Due.is("zone(" + a + ", " + z + ")", x.zone(a, z), due[a][z]);
            }
        }
    }

    private static void hosts() {
        NamedFabric x = made();
        int[][] due = {{0, 4, 2, 2}, {2, 0, 2, 5}, {0, 4 - 3, 2, 2}, {NONE, 0, 0, 0}, {3, 0, 0, 0}};
        for (int h = 0; h < 5; h++) {
            for (int what = 0; what < 4; what++) {
                Due.is("host(" + h + ", " + what + ")", x.host(h, what), due[h][what]);
            }
        }
        x.zones(0, 1, 6);
        Due.is("a host sees through each of its zones", x.host(2, 1), 3);
        Due.is("but not from one zone to another", x.host(0, 1), 4);
        Due.is("news stay till the next notice", x.host(0, 3), 2);
        Due.is("host(2, 3)", x.host(2, 3), 2);
        x.moves(4, 0);
        Due.is("at the fabric, in no zone of it", x.host(4, 1), 0);
    }

    private static void wrongNumbers() {
        NamedFabric x = made();
        int[] noSwitch = {-1, 4, NONE, Integer.MAX_VALUE, Integer.MIN_VALUE};
        for (int a : noSwitch) {
            Due.is("device(" + a + ", 0)", x.device(a, 0), BAD);
            Due.is("zone(" + a + ", 0)", x.zone(a, 0), BAD);
            Due.is("link(" + a + ", 0)", x.link(a, 0), BAD);
            Due.is("link(0, " + a + ")", x.link(0, a), BAD);
        }
        int[] noHost = {-1, 5, 8, NONE, Integer.MAX_VALUE, Integer.MIN_VALUE};
        for (int h : noHost) {
            Due.is("host(" + h + ", 0)", x.host(h, 0), BAD);
        }
        Due.is("link(1, 1)", x.link(1, 1), BAD);
        Due.is("device(0, -1)", x.device(0, -1), BAD);
        Due.is("device(0, 8)", x.device(0, 8), BAD);
        Due.is("zone(0, -1)", x.zone(0, -1), BAD);
        Due.is("zone(0, 4)", x.zone(0, 4), BAD);
        Due.is("host(0, -1)", x.host(0, -1), BAD);
        Due.is("host(0, 4)", x.host(0, 4), BAD);
    }
}
