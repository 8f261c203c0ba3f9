import com.sun.management.ThreadMXBean;
import java.lang.management.ManagementFactory;

/** All calls of one run share a room of 600,000 objects and 7.3 million fields: the dearest stay far below. */
public final class RoomTest {
    private static final long ROOM_BYTES = 6_000_000;
    private static final int CALLS = 512;
    private static final ThreadMXBean THREADS = (ThreadMXBean) ManagementFactory.getThreadMXBean();

    public static void main(String[] args) {
        Checks checks = new Checks();
        String[] dearest = {"(N w((x 0))(w(+ x 1)))", "(N w((a 1)(b 1)(d 1)(e 1)(f 1)(g 1.5))(w b a e d f(+ g 1)))",
            "(N f((k 8))(I(= k 0)1(+(f(- k 1))(f(- k 1)))))", "(N w((x 0))(X(+ x 1.5)(w x)))"};
        for (String text : dearest) {
            checks.due("room for runs of " + text, spent(() -> runs(text)) < ROOM_BYTES, true);
        }
        String[] texts = {"(A" + "a".repeat(61) + ")", "(Na()".repeat(7) + "'(1 2 3 4 5)" + ")".repeat(7),
            "'(" + "1 ".repeat(30) + ")", "(1 " + "(L()1)".repeat(10) + ")", "(Aaaaaa)", "'1.5", "", "(", "K"};
        for (String text : texts) {
            checks.due("room for texts " + text, spent(() -> texts(text)) < ROOM_BYTES, true);
        }
        checks.due("room for letters", spent(RoomTest::letters) < ROOM_BYTES, true);
        checks.end();
    }

    private static long spent(Runnable calls) {
        calls.run();
        long thread = Thread.currentThread().getId();
        long before = THREADS.getThreadAllocatedBytes(thread);
        calls.run();
        return THREADS.getThreadAllocatedBytes(thread) - before;
    }

    /** Types and compiles a text: how many calls that took. */
    private static int compile(SchemeSystem system, String text) {
        int calls = 1;
        for (int i = 0; i < text.length(); i += 8) {
            system.type(Session.packed(text.substring(i, Math.min(i + 8, text.length()))));
            calls++;
        }
        try {
            system.compile();
        } catch (IllegalArgumentException e) {
            return calls;
        }
        return calls;
    }

    private static void runs(String text) {
        SchemeSystem system = new SchemeSystem();
        for (int calls = compile(system, text); calls + 2 <= CALLS; calls += 2) {
            try {
                system.run();
            } catch (IllegalStateException e) {
                system.collect();
            }
        }
    }

    private static void texts(String text) {
        SchemeSystem system = new SchemeSystem();
        for (int calls = 0; calls + 10 <= CALLS; calls++) {
            calls += compile(system, text);
            system.collect();
        }
    }

    private static void letters() {
        SchemeSystem system = new SchemeSystem();
        for (int calls = compile(system, "5"); calls < CALLS; calls++) {
            system.letter(0);
        }
    }
}
