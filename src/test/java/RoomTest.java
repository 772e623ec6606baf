import java.lang.management.ManagementFactory;

/** All calls of a run live in one room: rows are made with the object, and calls make nothing more. */
public final class RoomTest {
    private static final com.sun.management.ThreadMXBean THREADS =
        (com.sun.management.ThreadMXBean) ManagementFactory.getThreadMXBean();

    private static long made() {
        return THREADS.getThreadAllocatedBytes(Thread.currentThread().getId());
    }

    private static void put(TwoKeys x, String t) {
        x.end(0);
        for (int i = 0; i < t.length(); i += 4) {
            int v = 0;
            for (int j = 0; j < 4; j++) {
                v = v << 8 | (i + j < t.length() ? t.charAt(i + j) : 0);
            }
            x.sign(v);
        }
        x.end(t.length());
    }

    private static final String[] PROGRAMS = {"a=a+1;m0:a", "b=b+1;s4", "?a;c=c+h;x", "d=d+1;j0:d"};

    private static void useAll(TwoKeys x) {
        for (int i = 0; i < 4; i++) {
            put(x, PROGRAMS[i]);
            x.task(i);
        }
        put(x, "!F|b<2");
        x.must();
        put(x, "a<9");
        x.bolt();
        put(x, "s1");
        x.patch(1, 0);
        x.type(1);
        x.given(1, 2, 3);
        x.letter(1, 2, 3, 4);
        for (int n = 0; n <= 20; n += 4) {
            x.all(n);
            x.never(n);
            put(x, "d=3");
            x.reach(n);
            x.stuck(n);
            x.runs(n);
            x.odds(0, n);
            x.quick(n);
            x.means(4, n);
            x.hid(0, n);
            x.iron(n);
            x.mend(n);
        }
        x.round(0, 2);
        x.fits();
        x.many();
        x.spare();
        x.like(0, 1);
        x.knew(2, 20);
        x.enough(3, 1);
        x.keep(0);
        x.step(2, 1);
        x.steps(0, 20, 0, 1);
        x.again(0);
        x.count(3);
        x.at(3);
    }

    public static void main(String[] args) {
        useAll(new TwoKeys());
        long before = made();
        TwoKeys x = new TwoKeys();
        long object = made() - before;
        before = made();
        for (int i = 0; i < 3; i++) {
            useAll(x);
        }
        long calls = made() - before;
        System.out.println("room: an object makes " + object + " bytes, its calls " + calls);
        System.exit(object < 1000000 && calls < 20000 ? 0 : 1);
    }
}
