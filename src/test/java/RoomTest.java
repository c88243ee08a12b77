import com.sun.management.ThreadMXBean;
import java.lang.management.ManagementFactory;

/** All calls of a run live in one room: what is needed is made with the object, and none later. */
public final class RoomTest {
    private static final Check c = new Check();
    private static long sum = 0;

    public static void main(String[] args) {
        ThreadMXBean bean = (ThreadMXBean) ManagementFactory.getThreadMXBean();
        NineActs x = new NineActs();
        ask(x);
        ask(x);
        long before = bean.getCurrentThreadAllocatedBytes();
        long idle = bean.getCurrentThreadAllocatedBytes() - before;
        before = bean.getCurrentThreadAllocatedBytes();
        ask(x);
        long used = bean.getCurrentThreadAllocatedBytes() - before;
        c.due("bytes that calls make", used, idle);
        before = bean.getCurrentThreadAllocatedBytes();
        new NineActs();
        used = bean.getCurrentThreadAllocatedBytes() - before;
        c.due("an object is small, its " + used + " bytes", used < 8000 ? 1 : 0, 1);
        c.due("answers were given", sum == 0 ? 1 : 0, 0);
        c.end();
    }

    private static final long[] TEXT = {0x6163742030203120L, 0x313b616374203120L, 0x3920393b20202020L};

    private static void ask(NineActs x) {
        for (long part : TEXT) {
            sum += x.type(part, 8);
        }
        sum += x.acts() + x.place(1) + x.place(0) + x.rest(1) + x.tune(0, 3) + x.family(0, 5) + x.keep(0);
        sum += x.act(0, 0) + x.feud(0, 1) + x.on(0) + x.minute(0, 0) + x.staged(0) + x.night(1, 1) + x.worth(0);
        sum += x.best(0) + x.best(1) + x.custom() + x.when() + x.ill(0, 0) + x.halves(0) + x.tryout(2, 2, 2, 1);
        sum += x.mark(0, 0, 9) + x.mark(1, 0, 8) + x.parted(0, 0) + x.opener() + x.hold(1) + x.drawn() + x.lot(3);
        sum += x.rate(3, 0) + x.back(0) + x.count(0) + x.trace() + x.empty() + x.type(0, 3) + x.acts() + x.clear();
    }
}
