import java.lang.management.ManagementFactory;

/** All calls of a run live in one room: what an object makes is made with it, and no call makes more. */
public final class RoomTest {
    private static final Checks C = new Checks();
    private static final com.sun.management.ThreadMXBean BEAN =
        (com.sun.management.ThreadMXBean) ManagementFactory.getThreadMXBean();

    public static void main(String[] args) {
        AnswersFirst x = new AnswersFirst();
        long first = made();
        AnswersFirst y = new AnswersFirst();
        long ofOne = made() - first;
        C.isTrue("an object takes " + ofOne + " bytes, some 20000", ofOne < 24_000);
        Checks.say(x, 0, Checks.times("0110ys0", 10));
        Checks.say(x, 1, Checks.times("0001", 10));
        Checks.say(x, 2, Checks.times("0910", 10));
        everyCall(x);
        long before = made();
        for (int i = 0; i < 100; i++) {
            everyCall(x);
        }
        long after = made();
        C.isTrue("a hundred rounds make " + (after - before) + " bytes", after - before < 4_000);
        C.due("the other one is as it was", y.count(0), 0);
        C.end();
    }

    private static long made() {
        return BEAN.getThreadAllocatedBytes(Thread.currentThread().getId());
    }

    private static void everyCall(AnswersFirst x) {
        x.undo(0);
        x.type(0, '0');
        x.set(3, x.set(3, 5));
        x.worth(0, 3);
        x.sheet(0, 2, 48);
        x.write(0);
        x.read(0);
        x.copy(0, 0, 0, 8, 40);
        x.put(0, 2, 3, 4);
        x.get(0, 2, 3);
        x.get(0, 2, 48);
        x.lose(0);
        x.seen(0, 1);
        x.digest();
        x.forget();
        x.undo(1);
        x.type(1, '1');
        x.lot(5, 99);
    }
}
