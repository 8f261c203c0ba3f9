/** Promise 7: collect. */
public final class Promise7CollectTest {
    public static void main(String[] args) {
        Checks checks = new Checks();
        globalsAndTheLatestValue(checks);
        theExpressionAtHand(checks);
        procedures(checks);
        constantsOfProcedures(checks);
        usedAgain(checks);
        checks.end();
    }

    private static void globalsAndTheLatestValue(Checks checks) {
        Session s = new Session();
        checks.due("nothing", s.collect(), 0);
        s.run("(D a (c 1 (c 2 (c 3 4))))");
        s.compile("1");
        checks.due("by a GLOBAL", s.collect(), 0);
        s.run("(D a (t (t a)))");
        checks.due("two before it", s.collect() + s.count(3) + s.count(4), "213");
        s.run("(D a 5)");
        checks.due("the last one", s.collect() + s.count(3), "10");
        s.run("(c (c 1 2) (c 3 4))");
        s.compile("");
        checks.due("by the latest VALUE", s.collect() + s.count(3), "03");
        s.run("1");
        checks.due("no longer", s.collect() + s.count(3) + s.count(4), "306");
        s.run("(X (c 1 2) (/ 1 0))");
        checks.due("after a throw", s.collect(), 1);
    }

    private static void theExpressionAtHand(Checks checks) {
        Session s = new Session();
        s.compile("(X '(1 (2)) 5)");
        checks.due("Q's at hand", s.collect() + s.count(3), "03");
        s.run();
        checks.due("Q's at hand after a run", s.collect() + s.count(3), "03");
        s.compile("(h '((3)))");
        checks.due("others at hand", s.collect() + s.count(3), "32");
        s.run();
        checks.due("all of them", s.collect() + s.count(3), "02");
        s.compile("K");
        checks.due("only the latest VALUE", s.collect() + s.count(3), "11");
        checks.due("it is whole", s.written(), "(3)");
        s.compile("(L () '(4))");
        checks.due("Q's of an L at hand", s.collect() + s.count(3), "02");
        s.compile("6");
        checks.due("no more", s.collect() + s.count(3), "11");
    }

    private static void procedures(Checks checks) {
        Session s = new Session();
        s.run("(D f (B ((x (c 1 2)) (y (c 3 4))) (L (z) x)))");
        checks.due("the L of B went", s.collect() + s.count(3), "13");
        s.run("(f 0)");
        s.compile("1");
        checks.due("all NAMES around it", s.collect() + s.count(3), "03");
        s.run("(D f 1)");
        checks.due("none", s.collect() + s.count(3), "30");
        s.run("(D g (B ((x '(1))) (B ((x 2)) (L () x))))");
        s.compile("1");
        checks.due("hidden NAMES too", s.collect() + s.count(3), "22");
        s.run("(D g (N l ((k 1)) (L () k)))");
        s.compile("1");
        checks.due("a loop holds itself", s.collect() + s.count(3), "32");
        s.run("(D g (L (x) (X (S y x) 1)))");
        s.run("(D y 0)");
        s.run("(g (c 1 2))");
        checks.due("the ARGUMENTS of a CALL that is over, but for y", s.collect() + s.count(3), "22");
        s.run("(D k (L (x) (L () x)))");
        s.run("(D g (k (k (k (c 1 2)))))");
        s.run("(D y 0)");
        checks.due("a chain of them", s.collect() + s.count(3), "25");
        checks.due("its end", s.value("(((g)))"), "(1 . 2)");
    }

    private static void constantsOfProcedures(Checks checks) {
        Session s = new Session();
        s.run("(D f (X '(a b) (L () (L () '(1 2)))))");
        s.compile("1");
        checks.due("only those of its e", s.collect() + s.count(3), "23");
        s.run("(D f (f))");
        s.compile("1");
        checks.due("those of the L in it", s.collect() + s.count(3), "13");
        checks.due("still there", s.value("(f)"), "(1 2)");
        s.run("(D g (B ((x '(3))) (L () '(4))))");
        s.compile("1");
        checks.due("those around are reached by x", s.collect() + s.count(3), "16");
        s.run("(D g (X (S f 0) '(5) (L () 1)))");
        s.compile("1");
        checks.due("not those beside it", s.collect() + s.count(3), "71");
    }

    private static void usedAgain(Checks checks) {
        Session s = new Session();
        s.run("(D f (L (k l) (I (= k 0) l (f (- k 1) (c k l)))))");
        for (int i = 0; i < 25; i++) {
            checks.due("again", s.run("(f 119 '())"), 478);
            checks.due("full", s.run("(c 1 2)") + s.count(3), "too much120");
            checks.due("held", s.collect(), 0);
            s.run("1");
            checks.due("all but f", s.collect() + s.count(3), "1191");
        }
        checks.due("came to be", s.count(4), 1 + 25 * 119);
    }
}
