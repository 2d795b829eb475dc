import java.lang.management.ManagementFactory;

/** The dearest calls on the fullest RIVER by the longest RULE: they end soon, and make nothing that fills the room. */
public final class RoomTest {
    private static final Due DUE = new Due();

    public static void main(String[] args) {
        EelThroat x = Due.with("river 12 9" + ";moon 5".repeat(12) + ";person 1;person 1;memory 0 1 0 0;memory 1 1 1 0;memory 2 1 2 1"
            + ";memory 3 1 3 0;memory 4 1 4 1;memory 5 1 5 0;trap 11 9 7 0;trap 10 9 7 0;trap 11 9 6 0;trap 10 9 6 1");
        for (int i = 0; i < 6; i++) {
            Due.rule(x, "go bait+with+traps+next" + "+1*light%7".repeat(18) + "+bait");
        }
        x.force(5);
        // What the machine makes for itself is made by then.
        ask(x);
        com.sun.management.ThreadMXBean bean = (com.sun.management.ThreadMXBean) ManagementFactory.getThreadMXBean();
        long thread = Thread.currentThread().getId();
        bean.getThreadAllocatedBytes(thread);
        long before = bean.getThreadAllocatedBytes(thread);
        long begun = System.nanoTime();
        ask(x);
        long took = System.nanoTime() - begun;
        long made = bean.getThreadAllocatedBytes(thread) - before;
        DUE.is("bytes made by asking", Math.max(made, 4096), 4096);
        DUE.is("ten seconds at most", Math.max(took / 1000000000L, 10), 10);
        DUE.close("RoomTest");
    }

    private static void ask(EelThroat x) {
        for (int what = 0; what < 3; what++) {
            x.bestSink(0, 40, what);
            x.rests(0, 1, 20, what);
        }
        for (int what = 0; what < 2; what++) {
            x.lay(0, 40, 3, what);
            x.moons(10, 60, 50, what);
            x.cycle(what);
            x.ruled(what);
            x.look(60, what);
            x.caught(0, what);
        }
        x.full();
        x.throats(0, 40);
        x.of(0);
        x.ahead(0, 100);
        x.atSea(100);
        x.night();
        x.undo();
        x.image(0);
        x.back(0);
        Due.tell(x, "river 2 9;fish");
        x.river();
        Due.tell(x, "go 1 if " + "[".repeat(10) + "pool = 1" + "]".repeat(10));
        x.rule();
    }
}
