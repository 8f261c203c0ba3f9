/** Promise 4: run. */
public final class Promise4RunTest {
    public static void main(String[] args) {
        Checks checks = new Checks();
        forms(checks);
        arithmetic(checks);
        builtIns(checks);
        names(checks);
        order(checks);
        steps(checks);
        depth(checks);
        objects(checks);
        whatAThrowLeaves(checks);
        manyNamesKept(checks);
        checks.end();
    }

    private static void value(Checks checks, String text, String due) {
        checks.due(text, new Session().value(text), due);
    }

    private static void forms(Checks checks) {
        value(checks, "(I ! 1 2)", "2");
        value(checks, "(I ? 1 2)", "1");
        value(checks, "(I 0 1 2)", "1");
        value(checks, "(I '() 1 2)", "1");
        value(checks, "(A)", "?");
        value(checks, "(A 1 2 3)", "3");
        value(checks, "(A 1 ! z)", "!");
        value(checks, "(O)", "!");
        value(checks, "(O ! ! 3)", "3");
        value(checks, "(O ! 3 z)", "?");
        value(checks, "(C)", "!");
        value(checks, "(C (! 1))", "!");
        value(checks, "(C (! z) (5 2) (? z))", "2");
        value(checks, "(X 1 2 3)", "3");
        value(checks, "(B ((a 1) (b 2)) (c b a))", "(2 . 1)");
        value(checks, "(B ((a 1)) (B ((a 2) (b a)) (c a b)))", "(2 . 1)");
        value(checks, "(N f ((k 5) (a 1)) (I (= k 0) a (f (- k 1) (* a k))))", "120");
        value(checks, "(N f ((g f)) (q f g))", "?");
        value(checks, "(N f ((f 7)) f)", "7");
        value(checks, "((L (a b c d e f) (+ a f)) 1 2 3 4 5 6)", "7");
        value(checks, "'(1 2.5 ? ! x K (y) ())", "(1 ~ ? ! x K (y) ())");
        value(checks, "''a", "(Q a)");
        value(checks, "(S + -)", "#");
        value(checks, "(D a (+ 1 1))", "2");
    }

    private static void arithmetic(Checks checks) {
        value(checks, "(* 99999 99999)", "1409865409");
        value(checks, "(% 7 (- 0 2))", "1");
        value(checks, "(% (- 0 7) 2)", "-1");
        value(checks, "(% 1 0)", "arithmetic");
        value(checks, "(% 1.5 0)", "unfit");
        value(checks, "(% 1 2.0)", "unfit");
        value(checks, "(/ 1 0)", "arithmetic");
        value(checks, "(/ 1 0.0)", "arithmetic");
        value(checks, "(/ 0.0 0.0)", "arithmetic");
        value(checks, "(/ 1 (* 0.0 (- 0 1)))", "arithmetic");
        value(checks, "(/ 'a 0)", "unfit");
        value(checks, "(* 1000 999999.999)", "~");
        value(checks, "(+ 999999999 1.0)", "~");
        value(checks, "(+ 999999999 1.1)", "arithmetic");
        value(checks, "(- (- 0 999999999) 1.0)", "~");
        value(checks, "(- (- 0 999999999) 1.1)", "arithmetic");
        value(checks, "(/ (+ 999999999 2) 1)", "arithmetic");
        value(checks, "(/ 999999999 0.5)", "arithmetic");
        value(checks, "(< 1 2)", "?");
        value(checks, "(< 2 2)", "!");
        value(checks, "(< 1.5 1)", "!");
        value(checks, "(= 2 2.0)", "?");
        value(checks, "(= 'a 'a)", "unfit");
        value(checks, "(< 1 ?)", "unfit");
        value(checks, "(+ 1)", "unfit");
        value(checks, "(+ 1 2 3)", "unfit");
        checks.due("wrapping", new Session().value("(B((a(* 46340 46341)))(+ a(+ a a)))"), "2147358524");
        Session s = new Session();
        s.run("(D a (+ (* 46340 46340) 88047))");
        checks.due("2147483647", s.written(), "2147483647");
        checks.due("one above", s.value("(+ a 1)"), "-2147483648");
        checks.due("two below", s.value("(- (+ a 1) 1)"), "2147483647");
    }

    private static void builtIns(Checks checks) {
        value(checks, "(h '(1 2))", "1");
        value(checks, "(t '(1 2))", "(2)");
        value(checks, "(h '())", "unfit");
        value(checks, "(t 1)", "unfit");
        value(checks, "(h '(1) '(2))", "unfit");
        value(checks, "(c 1)", "unfit");
        value(checks, "(n '())", "?");
        value(checks, "(n !)", "!");
        value(checks, "(n)", "unfit");
        value(checks, "(p '(1))", "?");
        value(checks, "(p '())", "!");
        value(checks, "(p +)", "!");
        value(checks, "(q 1 1)", "?");
        value(checks, "(q 1 1.0)", "!");
        value(checks, "(q 1.5 1.5)", "?");
        value(checks, "(q 1.5 1.6)", "!");
        value(checks, "(q 'a 'a)", "?");
        value(checks, "(q 'a 'b)", "!");
        value(checks, "(q ? ?)", "?");
        value(checks, "(q ? !)", "!");
        value(checks, "(q '() '())", "?");
        value(checks, "(q '(1) '(1))", "!");
        value(checks, "(B ((a '(1))) (q a a))", "?");
        value(checks, "(q + +)", "?");
        value(checks, "(q + -)", "!");
        value(checks, "(q (L () 1) (L () 1))", "!");
        value(checks, "(B ((a (L () '(1)))) (q (a) (a)))", "?");
        value(checks, "(1 2)", "unfit");
        value(checks, "('() 2)", "unfit");
        value(checks, "((L (a) a))", "unfit");
        value(checks, "((L (a) a) 1 2)", "unfit");
    }

    private static void names(Checks checks) {
        Session s = new Session();
        s.run("(D k (L (x) (L (y) (S x (+ x y)))))");
        s.run("(D m (k 10))");
        s.run("(D o (k 100))");
        checks.due("set in a closure", s.value("(m 3)"), "13");
        checks.due("it stays", s.value("(m 3)"), "16");
        checks.due("each has its own", s.value("(o 1)"), "101");
        checks.due("no GLOBAL x", s.value("x"), "missing");
        checks.due("S without a GLOBAL", s.value("(S x 1)"), "missing");
        checks.due("still none", s.value("x") + s.count(2), "missing16");
        checks.due("S works its e out first", s.value("(S x (D))"), "bad");
        s.run("(D r 0)");
        checks.due("S works its e out first", s.value("(S x (S r 7))") + s.value("r"), "missing7");
        checks.due("D again", s.value("(D r 8)") + s.count(2), "817");
        checks.due("a GLOBAL found when it runs", s.value("(D u (L () (v)))") + s.value("(u)"), "#missing");
        checks.due("defined later", s.value("(D v (L () 5))") + s.value("(u)"), "#5");
        checks.due("not the caller's NAMES", s.value("((L (w) (u)) 1)"), "5");
        checks.due("built-ins can change", s.value("(D + -)") + s.value("(+ 5 3)"), "#2");
    }

    private static void order(Checks checks) {
        Session s = new Session();
        s.run("(D l '())");
        s.run("(D w (L (x) (X (S l (c x l)) x)))");
        checks.due("PROCEDURE, then ARGUMENTS", s.value("((X (w 1) +) (w 2) (w 3))") + s.value("l"), "5(3 2 1)");
        checks.due("MISSING first", s.value("(z (/ 1 0))"), "missing");
        checks.due("ARGUMENTS before UNFIT", s.value("(1 (/ 1 0))"), "arithmetic");
        checks.due("from the first on", s.value("(+ (/ 1 0) z)"), "arithmetic");
        checks.due("only one way", s.value("(I ! (w 4) (w 5))") + s.value("(h l)"), "55");
    }

    private static void steps(Checks checks) {
        Session s = new Session();
        checks.due("no STEP", s.run("1") + " " + s.work(), "0 0 1");
        checks.due("STEPS", s.run("(+ 1 (* 2 3))") + " " + s.work(), "2 2 1");
        checks.due("an UNFIT STEP", s.run("(+ 1 (h 2))") + " " + s.work(), "unfit 1 1");
        s.run("(D f (L (k) (I (= k 0) 'e (f (- k 1)))))");
        checks.due("998 STEPS", s.run("(f 332)") + s.written(), "998e");
        checks.due("1000 STEPS", s.run("(I (= 1 1) (I (= 1 1) (f 332) 1) 1)") + s.work(), "10001000 1");
        checks.due("UNFIT as STEP 1000", s.run("(c (f 332) (= (= 1 1) 1))") + s.work(), "unfit1000 2");
        checks.due("one too many", s.run("(c (c (f 332) (= 1 1)) (= 1 1))"), "too much");
        checks.due("its STEPS", s.work(), "1000 2");
        checks.due("TOO MUCH comes before UNFIT", s.run("(1 (c (f 332) (= 1 1)))"), "too much");
        checks.due("tail CALLS without end", s.run("(f 1.5)") + s.work(), "too much1000 1");
        checks.due("as often as one likes", s.run() + s.run() + s.work(), "too muchtoo much1000 1");
    }

    private static void depth(Checks checks) {
        Session s = new Session();
        s.run("(D e (L (x) (I (= x 0) 0 (+ 1 (e (- x 1))))))");
        checks.due("39 deeper", s.run("(e 39)") + s.work(), "158158 40");
        checks.due("40 deeper", s.run("(e 40)") + s.work(), "too much121 40");
        checks.due("not in the TAIL", s.run("(+ 0 (e 38))") + s.work(), "155155 40");
        checks.due("not in the TAIL", s.run("(+ 0 (e 39))") + s.work(), "too much118 40");
        checks.due("the e of D isn't", s.run("(D r (e 0))") + s.work(), "22 2");
        checks.due("the e of S isn't", s.run("(S r (e 0))") + s.work(), "22 2");
        checks.due("the first of I isn't", s.run("(I (e 0) 1 2)") + s.work(), "22 2");
        checks.due("the second is", s.run("(I 1 (e 0) 2)") + s.work(), "22 1");
        checks.due("the third is", s.run("(I ! 1 (e 0))") + s.work(), "22 1");
        checks.due("the first of X isn't", s.run("(X (e 0) 1)") + s.work(), "22 2");
        checks.due("the last is", s.run("(X 1 (e 0))") + s.work(), "22 1");
        checks.due("an ARGUMENT isn't", s.run("(n (e 0))") + s.work(), "33 2");
        checks.due("B", s.run("(B () (e 0))") + s.work(), "33 1");
        checks.due("the e's of B", s.run("(B ((x (e 0))) 1)") + s.work(), "33 2");
        checks.due("the last of A", s.run("(A 1 (e 0))") + s.work(), "22 1");
        checks.due("another of A", s.run("(A (e 0) 1)") + s.work(), "22 2");
        checks.due("the last of O", s.run("(O ! (e 0))") + s.work(), "22 1");
        checks.due("another of O", s.run("(O (e 0) 1)") + s.work(), "22 2");
        checks.due("the second of C", s.run("(C (? (e 0)))") + s.work(), "22 1");
        checks.due("the first of C", s.run("(C ((e 0) 1))") + s.work(), "22 2");
        checks.due("N", s.run("(N f () (e 0))") + s.work(), "44 1");
        checks.due("N in an ARGUMENT", s.run("(n (N f () (e 0)))") + s.work(), "55 2");
        checks.due("MISSING", s.run("z") + s.work(), "missing0 1");
        checks.due("ARGUMENTS are looked at first", s.run("(D g (L (k) (+ 1 (I (= k 0) (g) (g (- k 1))))))"), 0);
        checks.due("UNFIT at DEPTH 40", s.run("(g 39)") + s.work(), "unfit120 40");
    }

    private static void objects(Checks checks) {
        Session s = new Session();
        s.run("(D f (L (k l) (I (= k 0) l (f (- k 1) (c k l)))))");
        s.run("(D a (f 99 '()))");
        s.run("(D b (f 19 '()))");
        checks.due("119 there", s.count(3) + s.count(4), "119119");
        checks.due("no room for two", s.run("(c 1 (c 2 3))") + s.work(), "too much2 1");
        checks.due("one came to be", s.count(3) + s.count(4), "120120");
        checks.due("none by L", s.run("(L () 1)"), "too much");
        checks.due("none by B", s.run("(B () 1)"), "too much");
        checks.due("UNFIT comes before", s.run("(c 1)"), "unfit");
        checks.due("none needed", s.value("(h (t a))"), "2");
        checks.due("none came to be", s.count(3) + s.count(4), "120120");
    }

    private static void whatAThrowLeaves(Checks checks) {
        Session s = new Session();
        s.run("(D a 1)");
        s.run("'(k)");
        checks.due("throws", s.run("(X (S a (c 1 2)) (c 3 4) (/ 1 0))"), "arithmetic");
        checks.due("the VALUE before", s.written(), "(k)");
        checks.due("what was made", s.count(3) + s.count(4), "33");
        checks.due("its STEPS", s.work(), "3 1");
        checks.due("still at hand", s.count(7) + s.run(), "1arithmetic");
        checks.due("what was set", s.value("a"), "(1 . 2)");
        checks.due("D after a throw", s.run("(D b (/ 1 0))") + s.count(2), "arithmetic14");
        s.compile("(");
        checks.due("none at hand", s.run(), "missing");
        checks.due("that changes nothing", s.work() + s.written(), "1 1(1 . 2)");
    }

    private static void manyNamesKept(Checks checks) {
        Session s = new Session();
        s.run("(D a 0)");
        s.compile("(D a(B((x a))(B()(B()(B()(L()x))))))");
        for (int i = 0; i < 100; i++) {
            s.run();
            s.collect();
        }
        checks.due("PROCEDURES in one another", s.count(3), 100);
        s.compile("(N w((i 1)(j 2))(w j i))");
        for (int i = 0; i < 5; i++) {
            checks.due("all STEPS", s.run() + s.work(), "too much1000 1");
            s.collect();
        }
        s.run("(D w(L(p k)(I(= k 0)p(w(p)(- k 1)))))");
        checks.due("the innermost", s.value("(w a 100)") + s.work(), "0402 2");
        checks.due("one before", s.value("((w a 99))"), "0");
    }
}
