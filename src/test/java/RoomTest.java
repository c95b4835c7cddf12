import com.sun.management.ThreadMXBean;
import java.lang.management.ManagementFactory;

/** All calls of a run share one room: the dearest ones, made again and again, must take little of it. */
public final class RoomTest {
    // Some 7.3 million fields and elements are allowed; of four bytes or more each, that is far above this.
    private static final long MOST_BYTES = 4_000_000L;
    private static final int CALLS = 512;

    interface Use {
        void call(RiddleRoad x, int i);
    }

    private static int wrong = 0;

    public static void main(String[] args) {
        measure("inn and undo", RoomTest::innAndUndo);
        measure("short laws", (x, i) -> tell(x, i, "hard1"));
        measure("long laws", (x, i) -> tell(x, i, "hard 9 if gate+kind+toll+day+coins+known+ear<1+1+1+1+1+1"));
        measure("live", (x, i) -> x.live(99));
        measure("plans", RoomTest::plans);
        measure("image and back", RoomTest::imageAndBack);
        System.out.println(wrong + " wrong");
        System.exit(wrong > 0 ? 1 : 0);
    }

    private static void innAndUndo(RiddleRoad x, int i) {
        x.inn(255);
        x.undo();
        x.inn(3);
    }

    /** A part of a text each time, and then the law: as many laws as the tape lets one tell. */
    private static void tell(RiddleRoad x, int i, String line) {
        if (line.length() > 5) {
            Check.put(x, line + ";" + line + ";" + line);
        } else {
            x.feed(0x68617264, 0x313b6861, 0x7264313b, 0x68617264, 0x31202020);
        }
        x.law();
    }

    private static void plans(RiddleRoad x, int i) {
        x.cheapest(0, 12, true);
        x.convoy(255, 12, true);
        x.monday(6);
        x.bring(4095);
        x.apart(3);
        x.questions(true);
        x.tries(0, 0, 1);
    }

    private static void imageAndBack(RiddleRoad x, int i) {
        x.image();
        x.back();
    }

    private static RiddleRoad whole() {
        RiddleRoad x = Check.told("gate 0;gate 0;gate 0;gate 0;gate 0;gate 0;gate 0;gate 0;gate 0;gate 0;gate 0;gate 0");
        String walker = "walker 999 30 knows 0 1 2 3";
        Check.road(x, walker + ";" + walker + ";" + walker + ";" + walker);
        Check.road(x, walker + ";" + walker + ";" + walker + ";" + walker);
        for (int c = 0; c < 6; c++) {
            Check.chain(x, "aaaaaaaaaaa" + (char) ('a' + c));
        }
        return x;
    }

    private static void measure(String what, Use use) {
        use.call(whole(), 0);
        ThreadMXBean threads = (ThreadMXBean) ManagementFactory.getThreadMXBean();
        long thread = Thread.currentThread().getId();
        long before = threads.getThreadAllocatedBytes(thread);
        RiddleRoad x = whole();
        for (int i = 0; i < CALLS; i++) {
            use.call(x, i);
        }
        long bytes = threads.getThreadAllocatedBytes(thread) - before;
        System.out.println(what + ": " + bytes + " bytes");
        if (bytes > MOST_BYTES) {
            wrong++;
            System.out.println(what + " takes too much room");
        }
    }
}
