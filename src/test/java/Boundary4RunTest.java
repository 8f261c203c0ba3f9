/** Promise 4, run: each sentence about RUNNING, DEPTH, TAIL and OBJECTS that names a boundary. */
public final class Boundary4RunTest {
    private static final String[] NO_PROCEDURES = {"1", "1.5", "?", "!", "'()", "'(1)", "'a", "'+"};
    /** Each place of a TAIL EXPRESSION in another, written _. */
    private static final String[] TAILS = {"_", "(I 1 _ 2)", "(I ! 2 _)", "(X _)", "(X 1 _)", "(A _)", "(A 1 _)", "(O _)",
        "(O ! _)", "(C (1 _))", "(C (! 1) (1 _))", "(X 1 (I 1 _ 2))", "(I ! 2 (X 1 _))"};
    /** Each place of an EXPRESSION that isn't TAIL. */
    private static final String[] OTHERS = {"(I _ 1 2)", "(X _ 1)", "(X 1 _ 2)", "(A _ 1)", "(A 1 _ 2)", "(O _ 1)", "(O ! _ 2)",
        "(C (_ 1))", "(C (! 1) (_ 1))", "(S r _)", "(n _)", "(q 1 _)", "(q _ 1)", "(I (X 1 _) 1 2)", "(X (I 1 _ 2) 1)"};

    public static void main(String[] args) {
        Checks checks = new Checks();
        noneAtHand(checks);
        asOften(checks);
        unlessFalse(checks);
        globalsThatArentThere(checks);
        setsAndDefines(checks);
        firstComesFirst(checks);
        aThousandSteps(checks);
        stepsBeforeUnfit(checks);
        noProcedure(checks);
        howManyArguments(checks);
        depthForty(checks);
        whenItWouldBegin(checks);
        tails(checks);
        tailsInL(checks);
        objectsByC(checks);
        objectsByL(checks);
        madeOnce(checks);
        whatStays(checks);
        checks.end();
    }

    private static void noneAtHand(Checks checks) {
        checks.sentence("(none: MISSING)");
        Session s = new Session();
        checks.due("a new object", s.run(), "missing");
        s.type("(+ 1 2)");
        checks.due("only typed", s.run(), "missing");
        s.compile();
        checks.due("compiled", s.run(), 1);
        s.compile("K");
        checks.due("bad", s.run(), "missing");
        checks.due("the VALUE and counts of the run before", s.written() + s.work(), "31 1");
        checks.due("again", s.run("5"), 0);
    }

    private static void asOften(Checks checks) {
        checks.sentence("RUNS the EXPRESSION at hand, as often as one likes");
        Session s = new Session();
        s.run("(D k 0)");
        s.compile("(S k (+ k 1))");
        for (int i = 1; i <= 400; i++) {
            checks.due("run " + i, s.run(), 1);
        }
        checks.due("what was set stays", s.written(), 400);
        s.type("1");
        checks.due("while another is typed", s.run() + s.written() + s.count(1), "14011");
    }

    private static void unlessFalse(Checks checks) {
        checks.sentence("I takes its second e unless the first is FALSE");
        for (String one : new String[] {"?", "0", "0.0", "1", "'()", "'(1)", "'a", "+", "(L () 1)", "(n '())", "'?"}) {
            checks.due(one, new Session().value("(I " + one + " 1 z)"), 1);
        }
        for (String one : new String[] {"!", "(n 1)", "'!", "(< 2 1)", "(h '(!))"}) {
            checks.due(one, new Session().value("(I " + one + " z 2)"), 2);
        }
    }

    private static void globalsThatArentThere(Checks checks) {
        checks.sentence("A GLOBAL that isn't there (for S: when its e is worked out): MISSING");
        Session s = new Session();
        s.run("(D r 0)");
        checks.due("v", s.run("z"), "missing");
        checks.due("a CALL of it", s.run("(z (S r 1))") + s.value("r"), "missing0");
        checks.due("an ARGUMENT", s.run("(+ (S r 2) z)") + s.value("r"), "missing2");
        checks.due("S", s.run("(S z (S r 3))") + s.value("r"), "missing3");
        checks.due("S, its e MISSING", s.run("(S z (/ 1 0))"), "arithmetic");
        checks.due("S in an L", s.run("((L (x) (S z x)) 1)"), "missing");
        checks.due("S of a NAME of an L", s.value("((L (z) (S z 5)) 1)"), 5);
        checks.due("not worked out", s.value("(I ? 1 z)"), 1);
        checks.due("none came to be", s.count(2), 14);
        checks.due("D", s.value("(D z 1)") + s.value("(S z 4)") + s.value("z") + s.count(2), "14415");
        checks.due("D of itself", s.run("(D y y)") + s.count(2), "missing15");
    }

    private static void setsAndDefines(Checks checks) {
        checks.sentence("S and D give what they set");
        Session s = new Session();
        checks.due("D", s.value("(D a (+ 1 1))"), 2);
        checks.due("D again", s.value("(D a '(3))"), "(3)");
        checks.due("S", s.value("(S a 4)"), 4);
        checks.due("S in another", s.value("(+ (S a 5) a)"), 10);
        checks.due("S of a NAME of an L", s.value("((L (x) (S x (+ x 1))) 6)"), 7);
    }

    private static void firstComesFirst(Checks checks) {
        checks.sentence("ARGUMENTS are worked out from the first on, the PROCEDURE before them");
        Session s = new Session();
        s.run("(D r '())");
        s.run("(D w (L (x) (S r (c x r))))");
        s.run("((X (w 1) q) (w 2) (w 3))");
        checks.due("q", s.value("r"), "(3 2 1)");
        s.run("((X (w 4) (L (a b d) 1)) (w 5) (w 6) (w 7))");
        checks.due("L", s.value("r"), "(7 6 5 4 3 2 1)");
        s.run("(B ((x (w 8)) (y (w 9))) 1)");
        checks.due("B", s.value("(c (h r) (h (t r)))"), "(9 . 8)");
        checks.sentence("run what it comes to first");
        checks.due("MISSING", s.run("(z (/ 1 0) (h 1))"), "missing");
        checks.due("arithmetic", s.run("(1 (/ 1 0) (h 1) z)"), "arithmetic");
        checks.due("UNFIT", s.run("(1 (h 1) (/ 1 0) z)"), "unfit");
    }

    /** f k takes 3 k + 2 STEPS, all in the TAIL. */
    private static Session withLoop() {
        Session s = new Session();
        s.run("(D f (L (k) (I (= k 0) 'e (f (- k 1)))))");
        return s;
    }

    private static void aThousandSteps(Checks checks) {
        checks.sentence("Each CALL, when all is worked out, is a STEP: with 1000 done: TOO MUCH");
        Session s = withLoop();
        checks.due("998", s.run("(f 332)") + " " + s.count(5), "998 998");
        checks.due("999", s.run("(X (n 1) (f 332))") + " " + s.count(5), "999 999");
        checks.due("1000", s.run("(X (n 1) (n 1) (f 332))") + " " + s.count(5) + s.written(), "1000 1000e");
        s.run("5");
        checks.due("1001", s.run("(X (n 1) (n 1) (n 1) (f 332))") + " " + s.count(5) + s.written(), "too much 10005");
        checks.due("1001, the last of an L", s.run("((L () (X (n 1) (n 1) (f 332))))") + " " + s.count(5), "too much 1000");
        checks.due("1001, the first", s.run("(X (f 332) (n 1) (n 1) (n 1))") + " " + s.count(5), "too much 1000");
        checks.due("1000 and no CALL more", s.run("(X (f 332) (n 1) (n 1) 7)") + s.written(), "10007");
        checks.due("1000, each run anew", s.run() + " " + s.run(), "1000 1000");
        checks.due("without end", s.run("(f 0.5)") + " " + s.work(), "too much 1000 1");
        checks.due("no STEP", s.run("(X 1 'a (L () (f 1)))") + " " + s.count(5), "0 0");
        s.run("(D r 0)");
        s.run("(D g (L (x) (X (S r (+ r 1)) (g x))))");
        checks.due("all that was set till then", s.run("(g 1)") + s.value("r"), "too much500");
    }

    private static void stepsBeforeUnfit(Checks checks) {
        checks.sentence("Then: no PROCEDURE, or not as many ARGUMENTS, or of wrong kinds");
        Session s = withLoop();
        String[] unfit = {"(1)", "(n)", "(h 1)", "(+ 1 'a)", "(f)", "(% 1.5 2)"};
        for (String one : unfit) {
            checks.due(one + " as STEP 1000", s.run("(X (f 332) (n 1) " + one + ")") + " " + s.count(5), "unfit 1000");
            checks.due(one + " as STEP 1001", s.run("(X (f 332) (n 1) (n 1) " + one + ")") + " " + s.count(5), "too much 1000");
        }
        checks.due("by 0 as STEP 1000", s.run("(X (f 332) (n 1) (/ 1 0))"), "arithmetic");
        checks.due("by 0 as STEP 1001", s.run("(X (f 332) (n 1) (n 1) (/ 1 0))"), "too much");
        checks.due("MISSING isn't a STEP", s.run("(X (f 332) (n 1) (n 1) (z))") + " " + s.count(5), "missing 1000");
        checks.due("its STEP counts", s.run("(1)") + s.count(5), "unfit1");
    }

    private static void noProcedure(Checks checks) {
        checks.sentence("no PROCEDURE: UNFIT");
        for (String one : NO_PROCEDURES) {
            Session s = new Session();
            checks.due("(" + one + ")", s.run("(" + one + ")") + s.count(5), "unfit1");
            checks.due("(" + one + " 1)", s.run("(" + one + " 1)") + s.count(5), "unfit1");
        }
        checks.due("a GLOBAL that is none", new Session().value("(X (S + 1) (+ 1 2))"), "unfit");
    }

    private static void howManyArguments(Checks checks) {
        checks.sentence("or not as many ARGUMENTS: UNFIT");
        for (int names = 0; names <= 6; names++) {
            String procedure = "((L (" + "abdefg".substring(0, names) + ") 5)";
            for (int arguments = 0; arguments <= 8; arguments++) {
                Session s = new Session();
                checks.due(names + " NAMES, " + arguments + " ARGUMENTS", s.value(procedure + " 1".repeat(arguments) + ")"),
                    names == arguments ? 5 : "unfit");
                checks.due("STEP and DEPTH", s.work(), "1 1");
            }
        }
        checks.due("six", new Session().value("((L (a b d e f g) (c a (c b (c d (c e (c f g)))))) 1 2 3 4 5 6)"),
            "(1 2 3 4 5 . 6)");
    }

    /** e x goes x deeper than where it begins and takes 4 x + 2 STEPS. */
    private static Session withDeepening() {
        Session s = new Session();
        s.run("(D e (L (x) (I (= x 0) 0 (+ 1 (e (- x 1))))))");
        return s;
    }

    private static void depthForty(Checks checks) {
        checks.sentence("DEPTH: 1 for the EXPRESSION itself; above 40: TOO MUCH");
        Session s = withDeepening();
        checks.due("the EXPRESSION itself", s.run("1") + s.work(), "00 1");
        checks.due("a TAIL CALL", s.run("(e 0)") + s.work(), "22 1");
        checks.due("another CALL", s.run("(+ (e 0) 0)") + s.work(), "33 2");
        checks.due("39", s.run("(e 38)") + " " + s.work(), "154 154 39");
        checks.due("40", s.run("(e 39)") + " " + s.work() + " " + s.written(), "158 158 40 39");
        checks.due("41", s.run("(e 40)") + " " + s.work() + " " + s.written(), "too much 121 40 39");
        checks.due("40, begun deeper", s.run("(+ (e 38) 1)") + " " + s.work() + " " + s.written(), "155 155 40 39");
        checks.due("41, begun deeper", s.run("(+ (e 39) 1)") + " " + s.work(), "too much 118 40");
        checks.due("40, twice", s.run("(+ (e 38) (e 38))") + " " + s.work(), "309 309 40");
        checks.due("the next run begins at 1", s.run("(e 39)") + " " + s.work(), "158 158 40");
        checks.due("the deepest one counts", s.run("(X (e 20) (e 5))") + " " + s.work(), "104 104 22");
        s.run("(Dw(L()(" + "+".repeat(50) + "(w))))");
        checks.due("with 50 VALUES waiting in each", s.run("(w)") + " " + s.work(), "too much 41 40");
        s.run("(Dw(L(k)(I(= k 0)0(" + "k".repeat(30) + "(w(- k 1))))))");
        checks.due("with 30 VALUES waiting in each", s.run("(w 39)") + " " + s.work(), "unfit 120 40");
    }

    private static void whenItWouldBegin(Checks checks) {
        checks.sentence("(when it would begin; its STEP counts)");
        atItsDeepest(checks, "(r)", 39, "159 159 40");
        atItsDeepest(checks, "(n (r))", 38, "156 156 40");
        atItsDeepest(checks, "(n (r))", 39, "too much 120 40");
        atItsDeepest(checks, "(n (n x))", 39, "160 160 40");
        atItsDeepest(checks, "(c x (L () 5))", 39, "159 159 40");
        atItsDeepest(checks, "(r 1)", 39, "unfit 120 40");
        atItsDeepest(checks, "(n (r 1))", 39, "unfit 120 40");
        atItsDeepest(checks, "(n (1))", 39, "unfit 120 40");
        atItsDeepest(checks, "(n (r (/ 1 0)))", 39, "arithmetic 120 40");
        atItsDeepest(checks, "(n (r z))", 39, "missing 119 40");
    }

    /** What comes of an EXPRESSION so many CALLS below a TAIL CALL, with the STEPS and the greatest DEPTH. */
    private static void atItsDeepest(Checks checks, String inside, int calls, String due) {
        Session s = new Session();
        s.run("(D r (L () 5))");
        s.run("(D g (L (x) (I (= x 0) " + inside + " (n (g (- x 1))))))");
        checks.due(inside + " below " + calls, s.run("(g " + calls + ")") + " " + s.work(), due);
    }

    private static void tails(Checks checks) {
        checks.sentence("TAIL: the EXPRESSION itself; of a TAIL I the second and third, of a TAIL X the last; all else isn't");
        for (String around : TAILS) {
            depthOf(checks, around, 1);
            depthOf(checks, "(I 1 " + around + " 2)", 1);
            depthOf(checks, "(n " + around + ")", 2);
        }
        for (String around : OTHERS) {
            depthOf(checks, around, 2);
            depthOf(checks, "(X 1 " + around + ")", 2);
        }
        depthOf(checks, "(D r _)", 2);
        depthOf(checks, "(B () _)", 1);
        depthOf(checks, "(B ((x _)) x)", 2);
        depthOf(checks, "(N l () _)", 1);
        depthOf(checks, "(N l ((x _)) x)", 2);
        depthOf(checks, "(n (B () _))", 2);
        depthOf(checks, "(n (N l () _))", 2);
        depthOf(checks, "(n (B ((x _)) x))", 2);
        depthOf(checks, "(n (N l ((x _)) x))", 3);
    }

    /** How deep the run of a text goes that has a CALL of an L at that place. */
    private static void depthOf(Checks checks, String around, int due) {
        Session s = new Session();
        s.run("(D r (L () 5))");
        s.run(around.replace("_", "(r)"));
        checks.due(around, s.count(6), due);
    }

    private static void tailsInL(Checks checks) {
        checks.sentence("working out the e of an L in a TAIL CALL has the DEPTH of what it's in, in another CALL one more");
        for (String around : TAILS) {
            loop(checks, around, 100, "done, DEPTH 1");
        }
        loop(checks, "(B () _)", 100, "done, DEPTH 1");
        loop(checks, "(N l () _)", 50, "done, DEPTH 1");
        for (String around : OTHERS) {
            loop(checks, around, 39, "done, DEPTH 40");
            loop(checks, around, 40, "too much, DEPTH 40");
        }
        loop(checks, "(B ((x _)) x)", 39, "done, DEPTH 40");
        loop(checks, "(B ((x _)) x)", 40, "too much, DEPTH 40");
    }

    /** What comes of a PROCEDURE that calls itself so often at that place. */
    private static void loop(Checks checks, String around, int times, String due) {
        Session s = new Session();
        s.run("(D r 0)");
        s.run("(Df(L(k)(I(= k 0)!" + around.replace("_", "(f(- k 1))") + ")))");
        String answer = s.run("(f " + times + ")");
        checks.due(times + " times " + around, (answer.matches("\\d+") ? "done" : answer) + ", DEPTH " + s.count(6), due);
    }

    private static void objectsByC(Checks checks) {
        checks.sentence("At most 120 are there: one more, by c: TOO MUCH");
        Session s = Session.with(119);
        checks.due("119", s.count(3) + " " + s.count(4), "119 119");
        checks.due("the 120th", s.run("(c 1 2)") + s.written() + " " + s.count(3) + " " + s.count(4), "1(1 . 2) 120 120");
        checks.due("the 121st", s.run("(c 3 4)") + s.written() + " " + s.count(3) + " " + s.count(4), "too much(1 . 2) 120 120");
        checks.due("its STEP counts", s.work(), "1 1");
        checks.due("UNFIT comes before", s.run("(c 1)"), "unfit");
        s.run("1");
        checks.due("one has no room till it is collected", s.run("(c 1 2)"), "too much");
        checks.due("one goes", s.collect() + " " + s.count(3), "1 119");
        checks.due("room for one", s.run("(c 5 6)") + s.written() + " " + s.count(3) + " " + s.count(4), "1(5 . 6) 120 121");
        checks.due("all else goes on", s.value("(h (t a))") + s.value("(q a a)"), "2?");
        Session two = Session.with(118);
        checks.due("two of three", two.run("(c 1 (c 2 (c 3 4)))") + " " + two.count(3) + " " + two.work(), "too much 120 3 1");
    }

    private static void objectsByL(Checks checks) {
        checks.sentence("one more, by L: TOO MUCH");
        Session s = Session.with(119);
        checks.due("the 120th", s.run("(L () 1)") + s.written() + s.count(3), "0#120");
        checks.due("the 121st", s.run("(L () 1)") + s.count(3) + s.count(4), "too much120120");
        checks.due("no STEP", s.work(), "0 1");
        checks.due("B", s.run("(B () 1)"), "too much");
        checks.due("N", s.run("(N l () 1)"), "too much");
        checks.due("D doesn't come to it", s.run("(D b (L () 1))") + s.count(2), "too much15");
        checks.due("not worked out", s.run("(I ? 1 (L () 1))"), 0);
        checks.due("a CALL makes none", s.value("(f 0 5)"), 5);
        checks.due("B with room for one", Session.with(119).value("(B ((x 5)) x)"), 5);
        checks.due("N with room for two", Session.with(118).value("(N l ((x 5)) x)"), 5);
        Session one = Session.with(119);
        checks.due("N with room for one", one.run("(N l ((x 5)) x)") + " " + one.count(3) + " " + one.work(), "too much 120 1 1");
    }

    private static void madeOnce(Checks checks) {
        checks.sentence("(Q datum) is the datum as VALUES, made once, when it's compiled");
        Session s = new Session();
        s.compile("'(1 (2))");
        checks.due("when it's compiled", s.count(3) + s.count(4), "33");
        s.run();
        s.run();
        checks.due("once", s.count(3) + s.count(4) + s.written(), "33(1 (2))");
        s.run("(D g (L () '(1)))");
        checks.due("the same", s.value("(q (g) (g))"), "?");
        checks.due("made once more", s.value("(q (g) '(1))"), "!");
    }

    private static void whatStays(Checks checks) {
        checks.sentence("what was set, defined, made and counted till then stays; the VALUE is the one before");
        stays(checks, "z", "missing", 2);
        stays(checks, "(S z 1)", "missing", 2);
        stays(checks, "(1 2)", "unfit", 3);
        stays(checks, "(h (n 1))", "unfit", 4);
        stays(checks, "(/ 1 0)", "arithmetic", 3);
        stays(checks, "(% (* 2 3) 0)", "arithmetic", 4);
        stays(checks, "(w)", "too much", 1000);
        Session s = new Session();
        checks.due("not defined", s.run("(D a (/ 1 0))") + s.count(2), "arithmetic13");
        checks.due("not set", s.run("(S + (/ 1 0))") + s.value("(+ 1 2)"), "arithmetic3");
        s = Session.with(118);
        checks.due("made till it's full", s.run("(X (S + (c 1 2)) (S - (c 3 4)) (S * (c 5 6)))"), "too much");
        checks.due("what is there then", s.count(3) + s.value("+") + s.value("-") + s.value("*"), "120(1 . 2)(3 . 4)#");
    }

    private static void stays(Checks checks, String end, String thrown, int steps) {
        Session s = new Session();
        s.run("(D a 1)");
        s.run("(D w (L () (w)))");
        s.run("'(1.5 x)");
        checks.due(end, s.run("(X (S a (c 7 8)) (c 1 2) " + end + ")"), thrown);
        checks.due("the VALUE after " + end, s.written() + " " + s.number(0), "(~ x) 1.5");
        checks.due("OBJECTS after " + end, s.count(3) + s.count(4), "55");
        checks.due("STEPS and DEPTH after " + end, s.work(), steps + " 1");
        checks.due("at hand after " + end, s.count(7) + s.run(), "1" + thrown);
        checks.due("a after " + end, s.value("a"), "(7 . 8)");
    }
}
