/** Promise 7, collect: each sentence about OBJECTS and HELD that names a boundary. */
public final class Boundary7CollectTest {
    public static void main(String[] args) {
        Checks checks = new Checks();
        howManyWent(checks);
        whatIsAnObject(checks);
        byGlobals(checks);
        byTheLatestValue(checks);
        byPairs(checks);
        byNames(checks);
        onlyAroundItsOwn(checks);
        byQuotesInProcedures(checks);
        byTheExpressionAtHand(checks);
        fullAndEmpty(checks);
        checks.end();
    }

    /** How many go when 1 has been compiled, and how many are there then. */
    private static String collected(Session s) {
        s.compile("1");
        return s.collect() + " " + s.count(3);
    }

    /** The same when nothing but GLOBALS can hold. */
    private static String collectedButGlobals(Session s) {
        s.run("1");
        return s.collect() + " " + s.count(3);
    }

    private static void howManyWent(Checks checks) {
        checks.sentence("Answers how many went");
        Session s = new Session();
        checks.due("none there", s.collect(), 0);
        s.run("(X (c 1 2) (c 3 4) (c 5 6))");
        checks.due("two of three", s.collect() + s.count(3) + s.count(4), "213");
        checks.due("again", s.collect() + s.count(3) + s.count(4), "013");
        s.run("1");
        checks.due("the third", s.collect() + s.count(3) + s.count(4), "103");
        checks.due("none left", s.collect() + s.count(3) + s.count(4), "003");
    }

    private static void whatIsAnObject(Checks checks) {
        checks.sentence("OBJECTS are PAIRS and PROCEDURES of L");
        String[] none = {"1", "1.5", "?", "'a", "'()", "+", "(+ 1 2)", "(t (h '()))"};
        for (String text : none) {
            Session s = new Session();
            s.run(text);
            checks.due("by " + text, s.count(3) + s.count(4), "00");
        }
        String[] some = {"(c 1 2)", "1", "'(1)", "1", "'(1 2 3)", "3", "''a", "2", "'(())", "1", "'((1))", "2", "(L () 1)", "1",
            "(B () 1)", "1", "(N l () 1)", "2", "(L () (L () 1))", "1", "((L () (L () 1)))", "2", "(L () '(1))", "2"};
        for (int i = 0; i < some.length; i += 2) {
            Session s = new Session();
            s.run(some[i]);
            checks.due("by " + some[i], s.count(3) + s.count(4), some[i + 1] + some[i + 1]);
            s.run("1");
            checks.due("gone of " + some[i], s.collect() + s.count(3) + s.count(4), some[i + 1] + "0" + some[i + 1]);
        }
    }

    private static void byGlobals(Checks checks) {
        checks.sentence("They're HELD if GLOBALS lead to them");
        Session s = new Session();
        s.run("(D a (c 1 2))");
        s.run("(S + (c 3 4))");
        s.run("(S = (L () 1))");
        checks.due("all of them", collectedButGlobals(s), "0 3");
        s.run("(S + 1)");
        checks.due("one set anew", collectedButGlobals(s), "1 2");
        s.run("(D a 1)");
        checks.due("one defined anew", collectedButGlobals(s), "1 1");
        s.run("(D b =)");
        s.run("(D = 1)");
        checks.due("by another one", collectedButGlobals(s), "0 1");
        checks.due("it still works", s.value("(b)"), 1);
    }

    private static void byTheLatestValue(Checks checks) {
        checks.sentence("or the latest VALUE, lead to them");
        Session s = new Session();
        s.run("(X (c 1 2) (c 3 (c 4 5)))");
        checks.due("a PAIR", collected(s), "1 2");
        s.run("(h 1)");
        checks.due("when a run threw", collected(s), "0 2");
        checks.due("it's whole", s.written(), "(3 4 . 5)");
        s.run("(B ((x (c 1 2))) (L () x))");
        checks.due("a PROCEDURE", collected(s), "3 2");
        s.run("(X (c 1 2) (h 1))");
        checks.due("not what a run made that threw", collected(s), "1 2");
    }

    private static void byPairs(Checks checks) {
        checks.sentence("a PAIR to both its VALUES");
        Session s = new Session();
        s.run("(D a (c (c 1 2) (c 3 4)))");
        checks.due("both", collectedButGlobals(s), "0 3");
        s.run("(D a (h a))");
        checks.due("the first alone", collectedButGlobals(s), "2 1");
        s.run("(D a (c (L () 1) (c + (L () 2))))");
        checks.due("PROCEDURES", collectedButGlobals(s), "1 4");
        s.run("(D a (t a))");
        checks.due("the rest alone", collectedButGlobals(s), "2 2");
        s.run("(D a (B ((x (c 1 2))) (c x x)))");
        checks.due("the same twice", collectedButGlobals(s), "3 2");
        checks.due("it's whole", s.value("a"), "((1 . 2) 1 . 2)");
        s.run("(D a 1)");
        s.run("(D r (L (k l) (I (= k 0) l (r (- k 1) (c l l)))))");
        s.run("(D a (r 110 'a))");
        checks.due("110 in one another, each twice", collectedButGlobals(s), "2 111");
        s.run("(D a 1)");
        checks.due("all of them", collectedButGlobals(s), "110 1");
        s.run("(D b '(1 2 3 4 5))");
        s.run("(D w (r 20 'a))");
        checks.due("20 in one another, each twice, and others", collectedButGlobals(s), "0 26");
    }

    private static void byNames(Checks checks) {
        checks.sentence("a PROCEDURE to all that the NAMES of the L's around its own stand for");
        Session s = new Session();
        s.run("(D g (B ((x (c 1 2)) (y (c 3 4))) (L () x)))");
        checks.due("also one that isn't used", collectedButGlobals(s), "1 3");
        s.run("(D g (B ((x (c 1 2))) (B ((y (c 3 4))) (B () (L () 1)))))");
        checks.due("all L's around", collectedButGlobals(s), "6 3");
        s.run("(D g (B ((x (c 1 2))) (L () (S x 5))))");
        checks.due("before it's set", collectedButGlobals(s), "4 2");
        s.run("(g)");
        checks.due("what it stands for now", collectedButGlobals(s), "1 1");
        s.run("(D g (B ((x '(1))) (B ((x 2)) (L () x))))");
        checks.due("a hidden one", collectedButGlobals(s), "3 2");
        s.run("(D g (N l ((k (c 1 2))) (L () k)))");
        checks.due("those of N", collectedButGlobals(s), "3 3");
        s.run("(D g (N l () l))");
        checks.due("itself", collectedButGlobals(s), "4 1");
        s.run("(D s (L (x) (L () x)))");
        s.run("(D g (s (s (s (c 1 2)))))");
        checks.due("one that keeps one that keeps one", collectedButGlobals(s), "1 5");
        checks.due("the end of it", s.value("(((g)))"), "(1 . 2)");
        Session deep = new Session();
        deep.run("(Na((x(c 1 2)))(Nb()(Nd()(Ne()(Nf()(Ng()(L()x)))))))");
        checks.due("twelve L's around", collected(deep), "6 8");
        deep.run("(D g 1)");
        deep.run("(D g (Na((x(c 1 2)))(Nb()(Nd()(Ne()(Nf()(L()x)))))))");
        checks.due("ten L's around", collectedButGlobals(deep), "13 7");
        checks.due("it's whole", deep.value("(g)"), "(1 . 2)");
    }

    private static void onlyAroundItsOwn(Checks checks) {
        checks.sentence("of the L's around its own");
        Session s = new Session();
        s.run("(D g (L (x) 1))");
        s.run("(g (c 1 2))");
        checks.due("not its own NAMES", collectedButGlobals(s), "1 1");
        s.run("(D g (X (B ((x (c 1 2))) x) (L () 1)))");
        checks.due("not those beside it", collectedButGlobals(s), "3 1");
        s.run("(D g (L () (B ((x (c 1 2))) x)))");
        s.run("(g)");
        checks.due("not those in it", collectedButGlobals(s), "3 1");
        s.run("(D w (L (x) (g)))");
        s.run("(w (c 1 2))");
        checks.due("not those of the CALLS around", collectedButGlobals(s), "3 2");
    }

    private static void byQuotesInProcedures(Checks checks) {
        checks.sentence("and to the PAIRS of all Q's in its e");
        Session s = new Session();
        s.run("(D g (L () '(1 2)))");
        checks.due("in its e", collectedButGlobals(s), "0 3");
        checks.due("it's whole", s.value("(g)"), "(1 2)");
        s.run("(D g (L () (I ? 1 (L () (X '(1) ''a)))))");
        checks.due("in L's in it, and never worked out", collectedButGlobals(s), "3 4");
        s.run("(D g (X '(1 2) (L () 1) (L () '(3))))");
        checks.due("not those beside it", collectedButGlobals(s), "7 2");
        s.run("(D g ((L () (X '(4 5 6) (L () 1) (L () '(7))))))");
        checks.due("not those around it", collectedButGlobals(s), "7 2");
        s.run("(D g (L () (X '(1) (L () '(2)))))");
        s.run("(D g (g))");
        checks.due("only those of the inner one", collectedButGlobals(s), "4 2");
        checks.due("it's whole", s.value("(g)"), "(2)");
        s.run("(D g (N l ((k '(1))) (L () '(2))))");
        checks.due("in N", collectedButGlobals(s), "3 4");
    }

    private static void byTheExpressionAtHand(Checks checks) {
        checks.sentence("the PAIRS of all Q's in the EXPRESSION at hand, and what they lead to, are HELD, too");
        Session s = new Session();
        s.compile("(I ? 1 (L () '(1 (2 3))))");
        checks.due("not run", s.collect() + s.count(3), "04");
        s.run();
        checks.due("run", s.collect() + s.count(3), "04");
        s.type("(a");
        checks.due("another one typed", s.collect() + s.count(3), "04");
        s.compile();
        checks.due("another one that is bad", s.collect() + s.count(3), "40");
        s.compile("'(1)");
        s.compile("'(2 3)");
        checks.due("only those at hand", s.collect() + s.count(3), "12");
        checks.due("they're whole", s.run() + s.written(), "0(2 3)");
        s.compile("K");
        checks.due("by the latest VALUE", s.collect() + s.count(3), "02");
        s.compile("(D g (L () '(4)))");
        checks.due("before D is run", s.collect() + s.count(3), "03");
        s.run();
        checks.due("after D is run", s.collect() + s.count(3), "22");
        s.run();
        checks.due("run twice, the first L", s.collect() + s.count(3), "12");
        checks.due("the PAIR of both", s.value("(g)"), "(4)");
    }

    private static void fullAndEmpty(Checks checks) {
        checks.sentence("All OBJECTS that aren't HELD are gone");
        Session s = Session.with(120);
        checks.due("120 held", collectedButGlobals(s), "0 120");
        s.run("(D a 1)");
        checks.due("119 not held", collectedButGlobals(s), "119 1");
        checks.due("119 anew", s.run("(D a (f 119 '()))") + " " + s.count(3) + " " + s.count(4), "478 120 239");
        s.run("(D a (t a))");
        checks.due("one of them", collectedButGlobals(s), "1 119");
        s.run("(D f 1)");
        s.run("(D a 1)");
        checks.due("all of them", collectedButGlobals(s), "119 0");
        for (int i = 0; i < 40; i++) {
            s.compile("'(1 2 3)");
            s.collect();
        }
        checks.due("used again and again", s.count(3) + " " + s.count(4), "3 359");
    }
}
