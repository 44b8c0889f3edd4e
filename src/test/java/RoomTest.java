import java.lang.management.ManagementFactory;

/** All rows are made in the constructor: calls take no room, and an object takes little. */
final class RoomTest {
    private static final int OBJECTS = 200, WARM = 50;
    private static final String TEXT = "s1 1 1;s2 2 1;s3 3 1;s4 4 1;s5 5 1;s6 6 1;h0;h1;h2;h3;h4;h5;h5;h5;";

    private static final com.sun.management.ThreadMXBean ROOM =
        (com.sun.management.ThreadMXBean) ManagementFactory.getThreadMXBean();
    private static int answers;

    public static void main(String[] args) {
        NamedFabric[] all = new NamedFabric[OBJECTS];
        for (int i = 0; i < WARM; i++) {
            all[i] = new NamedFabric();
            calls(all[i]);
        }
        long start = ROOM.getCurrentThreadAllocatedBytes();
        for (int i = WARM; i < OBJECTS; i++) {
            all[i] = new NamedFabric();
        }
        long made = ROOM.getCurrentThreadAllocatedBytes();
        for (int i = WARM; i < OBJECTS; i++) {
            calls(all[i]);
        }
        long used = ROOM.getCurrentThreadAllocatedBytes();
        long each = (made - start) / (OBJECTS - WARM);
        Due.so("an object takes " + each + " bytes", each < 16000);
        Due.so("calls of an object take " + (used - made) / (OBJECTS - WARM) + " bytes", (used - made) / (OBJECTS - WARM) < 500);
        Due.so("no answers", answers != 0);
        Due.end();
    }

    private static void calls(NamedFabric x) {
        for (int round = 0; round < 3; round++) {
            for (int i = 0; i < TEXT.length(); i++) {
                answers += x.type(TEXT.charAt(i));
            }
            answers += x.tells() + x.allows(1);
            for (int a = 0; a < 6; a++) {
                answers += x.joins(a, (a + 1) % 6) + x.zones(a, a % 4, 3 + a) + x.moves(a, (a + 3) % 6);
                answers += x.ranks(a, 3) + x.renews(a) + x.device(a, 5) + x.device(a, 4) + x.host(a, 1);
                answers += x.would(a, (a + 2) % 6) + x.weakest(0) + x.which(0) + x.ask();
            }
            answers += x.cuts(0, 1) + x.sees(0, 1, 1) + x.keep(0) + x.undo() + x.back(0) + x.forget() + x.count(7);
        }
    }
}
