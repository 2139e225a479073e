import java.lang.management.ManagementFactory;

/** All calls of a run live in one room: 512 of the dearest calls on 14 PEOPLE have to make next to nothing anew. */
public final class RoomTest {
    private static final long MOST_BYTES = 1_500_000;

    public static void main(String[] args) {
        com.sun.management.ThreadMXBean threads = (com.sun.management.ThreadMXBean) ManagementFactory.getThreadMXBean();
        dear(40);
        long id = Thread.currentThread().getId();
        long before = threads.getThreadAllocatedBytes(id);
        dear(512);
        long made = threads.getThreadAllocatedBytes(id) - before;
        System.out.println("RoomTest: " + made + " bytes made by a run");
        if (made > MOST_BYTES) {
            System.exit(1);
        }
    }

    private static void dear(int calls) {
        MoreThanHalf x = new MoreThanHalf();
        for (int i = 0; i < 14; i++) {
            x.sign('n' << 24 | '3' << 16 | i % 10 + '0' << 8 | ',');
            x.sign('1' << 24);
            x.end(5);
            x.street();
        }
        for (int i = 0; i < 14; i++) {
            x.meet(i, (i + 1) % 14, 1);
            x.meet(i, (i + 5) % 14, 2);
        }
        for (int call = 0; call < calls - 84; call++) {
            switch (call % 16) {
                case 0: x.set(0, 0, call % 100); break;
                case 1: x.first(); break;
                case 2: x.last(); break;
                case 3: x.fates(); break;
                case 4: x.daily(16383, 6); break;
                case 5: x.plan(16383, 6); break;
                case 6: x.game(3); break;
                case 7: x.against(6); break;
                case 8: x.change(20); break;
                case 9: x.hops(0, 7); break;
                case 10: x.bound(); break;
                case 11: x.sign('s' << 24 | '*' << 16 | 'p' << 8 | 'i'); break;
                case 12: x.end(3); break;
                case 13: x.rule(0); break;
                case 14: x.cheapest(16383, 20); break;
                default: x.market(60); break;
            }
        }
    }
}
