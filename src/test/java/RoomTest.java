import java.lang.management.ManagementFactory;

/** The room: what a new object takes, and that no call makes anything; and that the dearest calls end. */
public final class RoomTest {
    private static final com.sun.management.ThreadMXBean THREADS =
            (com.sun.management.ThreadMXBean) ManagementFactory.getThreadMXBean();

    private RoomTest() {
    }

    public static void main(String[] args) {
        run(new Sheet());
        long start = made();
        Sheet sheet = new Sheet();
        long object = made() - start;
        Check.due("a new object takes less than 400,000 bytes", object < 400000 ? 1 : 0, 1);
        start = made();
        run(sheet);
        long calls = made() - start;
        Check.due("calls make nothing", calls < 20000 ? 1 : 0, 1);
        Check.finish("RoomTest");
    }

    private static long made() {
        return THREADS.getThreadAllocatedBytes(Thread.currentThread().getId());
    }

    /** All 72 cells read all others, in a cycle that is gone over in 40 rounds. */
    private static void run(Sheet sheet) {
        CutoffSheet x = sheet.x;
        for (int cell = 0; cell < 72; cell++) {
            if (cell == 0) {
                type(x, "0*sum(a1:h9,a1:h9,a1:h9)+1");
            }
            x.put(cell);
            if (cell % 8 == 7) {
                x.update();
            }
        }
        x.rounds(40);
        for (int index = 0; index < 30; index++) {
            Check.due("whatIf in a sheet of cycles", x.whatIf(0, index, 71), 1);
            x.ranAt(index);
            x.chainAt(index, index);
            x.readerAt(index, index);
            x.count(index % 13);
            x.fault();
        }
        x.copy(0, 71);
        x.drop();
        x.undo();
    }

    private static void type(CutoffSheet x, String text) {
        for (int index = 0; index < text.length(); index++) {
            x.type(text.charAt(index));
        }
    }
}
