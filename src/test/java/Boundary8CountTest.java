/** Promise 8, count: each sentence that names a boundary. */
public final class Boundary8CountTest {
    public static void main(String[] args) {
        Checks checks = new Checks();
        thePlace(checks);
        textLength(checks);
        globals(checks);
        objects(checks);
        stepsAndDepth(checks);
        atHand(checks);
        others(checks);
        changesNothing(checks);
        checks.end();
    }

    private static void thePlace(Checks checks) {
        checks.sentence("THE PLACE of the latest text that couldn't be read, -1 if there was none (0)");
        Session s = new Session();
        checks.due("a new object", s.count(0), -1);
        s.type("#");
        checks.due("typed only", s.count(0), -1);
        s.compile();
        checks.due("place 0", s.count(0), 0);
        s.compile("(a");
        checks.due("a later one", s.count(0), 2);
        s.compile("a");
        checks.due("after one that can be read", s.count(0), 2);
        s.run();
        checks.due("after a run that threw", s.count(0), 2);
        s.compile("(K)");
        checks.due("after a WRONG one", s.count(0), 2);
        s.typeNumber(1);
        checks.due("after a bad number", s.count(0), 2);
        s.compile("");
        checks.due("the empty text", s.count(0), 0);
        s.compile("(" + " ".repeat(63));
        checks.due("the furthest", s.count(0), 64);
        Session wrong = new Session();
        wrong.compile("()");
        checks.due("WRONG only", wrong.count(0), -1);
        Session full = Session.with(120);
        full.compile("'(1)");
        checks.due("no room for PAIRS", full.count(0), -1);
    }

    private static void textLength(Checks checks) {
        checks.sentence("the text's length (1)");
        Session s = new Session();
        checks.due("empty", s.count(1), 0);
        s.type("a");
        checks.due("one", s.count(1), 1);
        s.type(" ".repeat(63));
        checks.due("full", s.count(1), 64);
        s.typeNumber(' ');
        checks.due("after TOO MUCH", s.count(1), 64);
        s.run();
        s.collect();
        checks.due("after run and collect", s.count(1), 64);
        s.compile();
        checks.due("compiled", s.count(1), 0);
    }

    private static void globals(Checks checks) {
        checks.sentence("GLOBALS (2)");
        Session s = new Session();
        checks.due("at first", s.count(2), 13);
        s.compile("(D a 1)");
        checks.due("compiled only", s.count(2), 13);
        s.run();
        checks.due("defined", s.count(2), 14);
        s.run();
        checks.due("defined again", s.count(2), 14);
        s.run("(D + 1)");
        checks.due("one that was there", s.count(2), 14);
        s.run("(S b 1)");
        checks.due("S of one that isn't there", s.count(2), 14);
        s.run("(D b (h 1))");
        checks.due("a D that threw", s.count(2), 14);
        s.run("(B ((b 1)) b)");
        checks.due("a NAME of an L", s.count(2), 14);
        for (char name : "abcdefghijklmnopqrstuvwxyz+-*/%<=".toCharArray()) {
            s.run("(D " + name + " 1)");
        }
        checks.due("all that can be", s.count(2), 33);
    }

    private static void objects(Checks checks) {
        checks.sentence("OBJECTS that came to be and haven't gone (3), came to be in all (4)");
        Session s = new Session();
        checks.due("at first", s.count(3) + s.count(4), "00");
        s.compile("'(1 2)");
        checks.due("by compile", s.count(3) + s.count(4), "22");
        s.run("(X (c 1 2) (L () 1))");
        checks.due("by c and L", s.count(3) + s.count(4), "44");
        s.run("(X (c 1 2) (h 1))");
        checks.due("by a run that threw", s.count(3) + s.count(4), "55");
        s.run("1");
        s.collect();
        checks.due("all gone", s.count(3) + s.count(4), "05");
        s.run("(c 1 2)");
        checks.due("one more", s.count(3) + s.count(4), "16");
        Session full = Session.with(120);
        full.run("(c 1 2)");
        full.compile("'(1)");
        checks.due("refused ones", full.count(3) + " " + full.count(4), "120 120");
    }

    private static void stepsAndDepth(Checks checks) {
        checks.sentence("STEPS of the latest run, also one that threw (5), its greatest DEPTH (6)");
        Session s = new Session();
        checks.due("no run", s.work(), "0 0");
        s.compile("(+ ((L (x) x) 1) 2)");
        checks.due("compiled only", s.work(), "0 0");
        s.run();
        checks.due("run", s.work(), "2 2");
        s.run();
        checks.due("not added up", s.work(), "2 2");
        s.run("5");
        checks.due("no STEP", s.work(), "0 1");
        s.run("(+ ((L (x) (h x)) 1) 2)");
        checks.due("one that threw", s.work(), "2 2");
        s.run("z");
        checks.due("one that threw at once", s.work(), "0 1");
        s.run("(N w ((i 0)) (w i))");
        checks.due("1000 and more", s.work(), "1000 1");
        s.run("(N w ((i 0)) (n (w i)))");
        checks.due("deeper than 40", s.work(), "42 40");
        s.collect();
        s.compile("K");
        checks.due("after compile and collect", s.work(), "42 40");
    }

    private static void atHand(Checks checks) {
        checks.sentence("1 if there is an EXPRESSION at hand (7)");
        Session s = new Session();
        checks.due("a new object", s.count(7), 0);
        s.type("1");
        checks.due("typed only", s.count(7), 0);
        s.compile();
        checks.due("compiled", s.count(7), 1);
        s.run();
        checks.due("run", s.count(7), 1);
        s.type("(");
        checks.due("another one typed", s.count(7), 1);
        s.compile();
        checks.due("one that can't be read", s.count(7), 0);
        s.compile("z");
        s.run();
        checks.due("one that threw", s.count(7), 1);
        s.compile("()");
        checks.due("WRONG", s.count(7), 0);
    }

    private static void others(Checks checks) {
        checks.sentence("else -1");
        Session s = Session.with(5);
        for (int what : new int[] {-1, -2, -8, 8, 9, 15, 16, 256, 65536, Integer.MIN_VALUE, Integer.MAX_VALUE}) {
            checks.due("count " + what, s.count(what), -1);
        }
        checks.due("count 7", s.count(7), 1);
    }

    private static void changesNothing(Checks checks) {
        checks.sentence("int count(int what)");
        Session s = Session.with(5);
        s.type("(a");
        String before = s.state();
        for (int what = -2; what < 10; what++) {
            s.count(what);
        }
        checks.due("state", s.state(), before);
    }
}
