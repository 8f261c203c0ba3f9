import com.sun.management.ThreadMXBean;
import java.lang.management.ManagementFactory;

/** All calls of one run share a room of 600,000 objects and 7.3 million fields: the dearest stay far below. */
public final class RoomTest {
    private static final long ROOM_BYTES = 6_000_000;
    private static final ThreadMXBean THREADS = (ThreadMXBean) ManagementFactory.getThreadMXBean();

    public static void main(String[] args) {
        Checks checks = new Checks();
        String[] dearest = {"(N w((x 0))(w(+ x 1)))", "(N w((a 1)(b 1)(d 1)(e 1)(f 1)(g 1.5))(w b a e d f(+ g 1)))",
            "(N f((k 8))(I(= k 0)1(+(f(- k 1))(f(- k 1)))))", "(N w((x 0))(X(+ x 1.5)(w x)))"};
        for (String text : dearest) {
            checks.due("room for 507 runs of " + text, spent(() -> runs(text, 507)) < ROOM_BYTES, true);
        }
        checks.due("room for 57 long texts", spent(() -> longTexts("(A" + "a".repeat(61) + ")")) < ROOM_BYTES, true);
        checks.due("room for 57 long texts", spent(() -> longTexts("(Na()".repeat(7) + "'(1 2 3 4 5)" + ")".repeat(7)))
            < ROOM_BYTES, true);
        checks.due("room for 57 lists", spent(() -> longTexts("'(" + "1 ".repeat(30) + ")")) < ROOM_BYTES, true);
        checks.due("room for 512 letters", spent(RoomTest::letters) < ROOM_BYTES, true);
        checks.end();
    }

    private static long spent(Runnable calls) {
        calls.run();
        long thread = Thread.currentThread().getId();
        long before = THREADS.getThreadAllocatedBytes(thread);
        calls.run();
        return THREADS.getThreadAllocatedBytes(thread) - before;
    }

    private static void runs(String text, int runs) {
        Session s = new Session();
        s.compile(text);
        for (int i = 0; i < runs; i++) {
            s.run();
            s.collect();
        }
    }

    private static void longTexts(String text) {
        Session s = new Session();
        for (int i = 0; i < 57; i++) {
            s.compile(text);
            s.collect();
        }
    }

    private static void letters() {
        Session s = new Session();
        s.run("'(1 2.5 abcdefgh)");
        for (int i = 0; i < 512; i++) {
            s.letter(i % 20);
        }
    }
}
