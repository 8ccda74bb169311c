import java.lang.management.ManagementFactory;

/** All calls of a run live in one room: the object is small, and no call makes anything. */
public final class RoomTest {
    private static final com.sun.management.ThreadMXBean METER = meter();

    private static com.sun.management.ThreadMXBean meter() {
        java.lang.management.ThreadMXBean bean = ManagementFactory.getThreadMXBean();
        return bean instanceof com.sun.management.ThreadMXBean b ? b : null;
    }

    private static long made() {
        return METER.getThreadAllocatedBytes(Thread.currentThread().getId());
    }

    public static void main(String[] args) {
        if (METER == null) {
            System.out.println("this machine does not tell what is made; nothing was tested");
            return;
        }
        for (int i = 0; i < 20; i++) allCalls(new ShipSkins());
        made();
        long before = made();
        ShipSkins x = new ShipSkins();
        long forObject = made() - before;
        before = made();
        allCalls(x);
        long forCalls = made() - before;
        System.out.println("the object takes " + forObject + " bytes, its calls " + forCalls);
        if (forObject > 64000 || forCalls > 1000) System.exit(1);
    }

    private static void allCalls(ShipSkins x) {
        x.ship(10);
        x.table(1, 1, -5, 8);
        x.leg(0, 0, 0, 10, 3, 4);
        x.leg(0, 30, 0, 0, 0, 0);
        x.cleaned(0, 60, 50);
        x.terms(2, 50);
        for (int i = 0; i < 10; i++) x.log(0, i * 3, 20 + 40 * i, 5, 1 + i, 0);
        for (int i = 0; i < 14; i++) x.look(0, i * 8, 37 * i, 37 * i + 20, 1 + i % 3, 0);
        for (int i = 0; i < 7; i++) x.call(i * 9);
        for (int i = 0; i < 4; i++) {
            x.of(i, 2);
            x.leave(i, i % 2);
            x.law(0, i, 0);
            x.share(0, i, 500, i);
            x.span(0, i, 119, 0);
            x.why(0, i, 119, 1);
            x.lost(0, 0, 119, 119, 1);
            x.widest(0, 0, 119, 119);
            x.quarrels(0, 119, i);
            x.quarrel(i, 5);
            x.right(0, 119);
            x.isRight(i);
            x.prove(0, 119);
            x.proof(i);
            x.feed(674323293, 1532832000, 0, 0, 0);
            x.end(7);
            x.check(0, 119, 1000);
            x.fault();
            x.miss(0, 119);
            x.curve(i);
            x.hidden(0, 119, 10);
            x.hid(0);
            x.plan(0, 0, 119, 119);
            x.judge(0, i, 0, 119, 119);
            x.seal();
            x.alter(i, 9);
            x.found();
            x.image(1);
            x.back(1);
            x.count(i);
            x.status();
        }
        x.clear();
    }
}
