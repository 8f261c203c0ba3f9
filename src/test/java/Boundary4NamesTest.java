/** Promise 4, run: what PROCEDURES keep, however many there are and however often what is gone is used again. */
public final class Boundary4NamesTest {
    public static void main(String[] args) {
        Checks checks = new Checks();
        innermost(checks);
        eachItsOwn(checks);
        sixNames(checks);
        besideAKeptOne(checks);
        asManyAsCanBe(checks);
        deepInOneAnother(checks);
        gonePlacesAreUsedAgain(checks);
        aFullRunOfCalls(checks);
        checks.end();
    }

    private static void innermost(Checks checks) {
        checks.sentence("A NAME is that of the innermost L around that has it, else a GLOBAL");
        Session s = new Session();
        s.run("(D x 1)");
        checks.due("a GLOBAL", s.value("((L (y) x) 2)"), 1);
        checks.due("its own", s.value("((L (x) x) 2)"), 2);
        checks.due("the innermost", s.value("((L (x) ((L (x) x) 3)) 2)"), 3);
        checks.due("the one around", s.value("((L (x) ((L (y) x) 3)) 2)"), 2);
        checks.due("two around", s.value("((L (x) ((L (y) ((L (z) x) 4)) 3)) 2)"), 2);
        checks.due("S of the innermost", s.value("((L (x) (X ((L (x) (S x 4)) 3) x)) 2)"), 2);
        checks.due("S of the one around", s.value("((L (x) (X ((L (y) (S x 4)) 3) x)) 2)"), 4);
        checks.due("S of a GLOBAL", s.value("((L (y) (S x 5)) 3)") + s.value("x"), "55");
        s.run("(D g (L () x))");
        checks.due("not that of the CALL around", s.value("((L (x) (g)) 2)"), 5);
        checks.due("the e's of B see what is around", s.value("((L (x) (B ((x 3) (y x)) (c x y))) 2)"), "(3 . 2)");
        checks.due("the e's of N see v", s.value("(N x ((y x)) (q x y))"), "?");
        checks.due("a w that is v", s.value("(N x ((x 7)) x)"), 7);
        checks.due("a built-in's NAME", s.value("((L (+) (+ 1 2)) -)"), -1);
    }

    private static void eachItsOwn(Checks checks) {
        checks.sentence("A PROCEDURE of L keeps where its NAMES are");
        Session s = new Session();
        s.run("(D k (L (x) (L (y) (S x (+ x y)))))");
        s.run("(D m (k 10))");
        s.run("(D o (k 100))");
        checks.due("what it set stays", s.value("(m 1)") + " " + s.value("(m 1)"), "11 12");
        checks.due("another one's", s.value("(o 1)") + " " + s.value("(m 1)"), "101 13");
        s.run("(D b (B ((x 0)) (c (L () x) (L (y) (S x y)))))");
        checks.due("two with the same", s.value("((t b) 5)") + s.value("((h b))"), "55");
    }

    private static void sixNames(Checks checks) {
        checks.sentence("at most 6 v's");
        Session s = new Session();
        s.run("(D m (L (u v w x y z) (L () (c u (c v (c w (c x (c y z))))))))");
        s.run("(D a (m 1 2 3 4 5 6))");
        s.run("(D b (m 11 12 13 14 15 16))");
        s.run("(D d (m 21 22 23 24 25 26))");
        checks.due("the second", s.value("(b)"), "(11 12 13 14 15 . 16)");
        checks.due("the first", s.value("(a)"), "(1 2 3 4 5 . 6)");
        checks.due("the third", s.value("(d)"), "(21 22 23 24 25 . 26)");
    }

    private static void besideAKeptOne(Checks checks) {
        checks.sentence("keeps where its NAMES are");
        Session s = new Session();
        s.run("(D s (L (x) (L () x)))");
        s.run("(D a 0)");
        s.run("(X (s 1) (S a (s 5)) (s 2))");
        s.run("1");
        s.collect();
        for (int i = 0; i < 5; i++) {
            s.run("((L (a b d e f g) (L () (+ a g))) 31 32 33 34 35 36)");
            checks.due("after another CALL", s.value("(a)"), 5);
            s.collect();
        }
    }

    private static void asManyAsCanBe(Checks checks) {
        checks.sentence("At most 120 are there");
        Session s = new Session();
        s.run("(c 1 2)");
        s.run("(D m (L (k l) (I (= k 0) l (m (- k 1) (c (L () k) l)))))");
        s.run("(D s (L (l z) (I (n l) z (s (t l) (+ z ((h l)))))))");
        s.collect();
        s.run("(D a (m 59 '()))");
        checks.due("59 PROCEDURES in 59 PAIRS", s.count(3), 120);
        for (int i = 0; i < 5; i++) {
            checks.due("what they keep, in all", s.value("(s a 0)"), 59 * 60 / 2);
            checks.due("none goes", s.collect(), 0);
        }
        checks.due("the first", s.value("((h a))"), 1);
    }

    private static void deepInOneAnother(Checks checks) {
        checks.sentence("the L's around its own");
        Session s = new Session();
        s.run("(D g (Na((x 77))(Nb()(Nd()(Ne()(Nf()(L()x)))))))");
        s.run("(D w (L (k v x y z u) (I (= k 0) 'e (w (- k 1) k k k k k))))");
        for (int i = 0; i < 3; i++) {
            s.collect();
            checks.due("300 CALLS", s.value("(w 300 1 2 3 4 5)"), "e");
            checks.due("ten L's around", s.value("(g)"), 77);
        }
    }

    private static void gonePlacesAreUsedAgain(Checks checks) {
        checks.sentence("came to be and haven't gone");
        Session s = new Session();
        s.run("(D m (L (k l) (I (= k 0) l (m (- k 1) (c (L () k) l)))))");
        s.run("(D w (L (k) (I (= k 0) 'e (w (- k 1)))))");
        s.run("(D a '())");
        s.compile("(S a (I (n a) (m 50 '()) '()))");
        for (int i = 0; i < 140; i++) {
            checks.due("50 PROCEDURES come", s.run(), 203);
            checks.due("they're left", s.run(), 1);
            checks.due("they go", s.collect(), 100);
        }
        checks.due("STEPS as ever", s.value("(w 332)") + s.count(5), "e998");
    }

    private static void aFullRunOfCalls(Checks checks) {
        checks.sentence("An object is used for at most 512 calls after it has been made");
        Session s = new Session();
        s.run("(D a 0)");
        s.compile("(D a(B((x a)(y 1)(z 2))(B()(B()(B()(B()(L()x)))))))");
        for (int i = 1; i <= 115; i++) {
            checks.due("L number " + i + " in five others", s.run() + s.collect(), "55");
        }
        checks.due("no room for six", s.run() + s.collect() + " " + s.count(3), "too much5 115");
        s.compile("(N w((i 1)(j 2)(k 3)(l 4)(m 5)(o 6))(w j k l m o i))");
        for (int i = 0; i < 100; i++) {
            checks.due("as many STEPS as can be", s.run() + s.collect(), "too much2");
        }
        checks.due("their number", s.work(), "1000 1");
        s.run("(D w(L(p k)(I(= k 0)p(w(p)(- k 1)))))");
        checks.due("what the first L keeps", s.value("(w a 115)") + s.count(5), "0462");
    }
}
