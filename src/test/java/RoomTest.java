import com.sun.management.ThreadMXBean;
import java.lang.management.ManagementFactory;

/** All calls of a run live in one room: a call makes nothing, and a new object little. */
public final class RoomTest {
    private static final Check CHECK = new Check("RoomTest");
    private static final String TEXT = "plain 60;wicked 50;creased 40;napkin 30;plain 20;wicked 10;"
        + "blue 1;batch 6;pegs 2;pass 3;soak 20;sun 1 2 3 4 5 6 7;";
    private static final ThreadMXBean THREADS = (ThreadMXBean) ManagementFactory.getThreadMXBean();
    private static long sink;

    public static void main(String[] args) {
        MangleLine[] objects = new MangleLine[20];
        for (int k = 0; k < objects.length; k++) {
            objects[k] = new MangleLine();
        }
        // The machine itself may make something when it first meets a call, so the least of several counts.
        long least = Long.MAX_VALUE;
        for (MangleLine x : objects) {
            long before = made();
            everyCall(x);
            least = Math.min(least, made() - before);
        }
        CHECK.due("bytes made by every call once", least, 0);
        long before = made();
        for (int k = 0; k < 1000; k++) {
            sink += new MangleLine().rule(0);
        }
        long each = (made() - before) / 1000;
        CHECK.holds("bytes of a new object: " + each, each < 16000);
        System.out.println("RoomTest: " + each + " bytes a new object; " + sink);
        CHECK.end();
    }

    private static long made() {
        return THREADS.getThreadAllocatedBytes(Thread.currentThread().getId());
    }

    private static void everyCall(MangleLine x) {
        for (int k = 0; k < TEXT.length(); k++) {
            sink += x.feed(TEXT.charAt(k));
        }
        sink += x.text() + x.fault() + x.feed('@') + x.text() + x.fault();
        sink += x.feed('a') + x.end(0);
        for (int w = -1; w < 8; w++) {
            sink += x.rule(w) + x.told(w) + x.one(w, w) + x.sun(w) + x.count(w);
            sink += x.runs(60, w) + x.ahead(w, 60, w) + x.home(w);
            sink += x.batch(w) + x.swap(w) + x.fair(w) + x.stain(w, 60) + x.kind(w, 0);
            sink += x.luck(3, w, 8, 0) + x.mean(3, 8, w) + x.drift(w, 60, 0);
            sink += x.see(20, 0, w) + x.kinds(w) + x.greys(w) + x.ask(w, 0) + x.forget(0);
        }
        sink += x.done() + x.blue(60) + x.pegs(60);
        sink += x.keep(0) + x.alter(0, 1, 5) + x.set(0, 5) + x.shine(0, 9) + x.days(30) + x.fetch(3) + x.back(0);
        sink += x.bring(0, 0) + x.bring(9, 9);
        sink += x.sheet(0, 2, 40) + x.sheet(1, 0, -1) + x.lay(0, 5, 9) + x.lay(3, 0, 0);
        sink += x.feed(';') + x.end(0) + x.text();
        sink += x.read(0, 2, 0, 3) + x.read(0, 1, 0, 3) + x.read(2, 2, 0, 20) + x.torn();
    }
}
