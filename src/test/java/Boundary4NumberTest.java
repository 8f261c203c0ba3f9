/** Promise 4, run, as far as the GLOBALS at first go: each sentence about numbers and ARGUMENTS that names a boundary. */
public final class Boundary4NumberTest {
    private static final String[] NO_NUMBERS = {"?", "!", "'()", "'(1)", "'a", "+", "h", "(L () 1)"};

    public static void main(String[] args) {
        Checks checks = new Checks();
        wrapping(checks);
        remainders(checks);
        dividing(checks);
        aboveTheLimit(checks);
        belowTheLimit(checks);
        onlyFloatsAreLimited(checks);
        intsOrFloats(checks);
        comparing(checks);
        howManyArguments(checks);
        kindsOfArguments(checks);
        pairsOnly(checks);
        anyKind(checks);
        theSame(checks);
        checks.end();
    }

    private static void value(Checks checks, String text, String due) {
        checks.due(text, new Session().value(text), due);
    }

    private static void number(Checks checks, String text, double due) {
        Session s = new Session();
        s.run(text);
        checks.due(text, s.number(0), due);
    }

    /** a is the greatest INT, b the least, e is -1. */
    private static Session withEnds() {
        Session s = new Session();
        s.run("(D e (- 0 1))");
        s.run("(D a (+ (* 46340 46340) 88047))");
        s.run("(D b (- (- 0 a) 1))");
        return s;
    }

    private static void wrapping(Checks checks) {
        checks.sentence("INTS (wrapping)");
        Session s = withEnds();
        String[] texts = {"a", "2147483647", "b", "-2147483648", "(+ a 0)", "2147483647", "(+ a 1)", "-2147483648",
            "(+ a a)", "-2", "(- b 0)", "-2147483648", "(- b 1)", "2147483647", "(- 0 a)", "-2147483647", "(- 0 b)",
            "-2147483648", "(- a b)", "-1", "(+ b b)", "0", "(* a 1)", "2147483647", "(* a 2)", "-2", "(* b e)",
            "-2147483648", "(* b b)", "0", "(* 65536 32767)", "2147418112", "(* 65536 32768)", "-2147483648",
            "(* 99999 99999)", "1409865409"};
        for (int i = 0; i < texts.length; i += 2) {
            checks.due(texts[i], s.value(texts[i]), texts[i + 1]);
        }
    }

    private static void remainders(Checks checks) {
        checks.sentence("%: of INTS, what is left of a division towards zero");
        value(checks, "(% 7 2)", "1");
        value(checks, "(% (- 0 7) 2)", "-1");
        value(checks, "(% 7 (- 0 2))", "1");
        value(checks, "(% (- 0 7) (- 0 2))", "-1");
        value(checks, "(% 6 2)", "0");
        value(checks, "(% 0 5)", "0");
        value(checks, "(% 5 1)", "0");
        checks.due("the least by -1", withEnds().value("(% b e)"), "0");
        checks.due("the least by the greatest", withEnds().value("(% b a)"), "-1");
        checks.sentence("% by 0: ArithmeticException");
        value(checks, "(% 1 0)", "arithmetic");
        value(checks, "(% 0 0)", "arithmetic");
        value(checks, "(% 1 (- 1 1))", "arithmetic");
        value(checks, "(% 0 1)", "0");
    }

    private static void dividing(Checks checks) {
        checks.sentence("/ by 0 or 0.0: ArithmeticException");
        for (String zero : new String[] {"0", "0.0", "0.000", "(- 0 0)", "(* 0.0 (- 0 1))", "(/ 0 (- 0 1))", "(- 1.5 1.5)"}) {
            value(checks, "(/ 1 " + zero + ")", "arithmetic");
            value(checks, "(/ 1.5 " + zero + ")", "arithmetic");
            value(checks, "(/ 0 " + zero + ")", "arithmetic");
            value(checks, "(/ 0.0 " + zero + ")", "arithmetic");
        }
        number(checks, "(/ 1 0.001)", 1 / 0.001);
        number(checks, "(/ 1 (- 0 0.001))", -1 / 0.001);
        number(checks, "(/ 0 5)", 0.0);
        number(checks, "(/ 0.0 5)", 0.0);
        Session s = new Session();
        s.run("(D f (L (x k) (I (= k 0) x (f (* x 0.001) (- k 1)))))");
        checks.due("by next to nothing", s.run("(/ 0 (f 1 105))") + " " + s.number(0), "423 0.0");
        checks.due("1 by next to nothing", s.run("(/ 1 (f 1 105))"), "arithmetic");
        checks.due("by what has become 0.0", s.run("(/ 0 (f 1 120))"), "arithmetic");
    }

    /** m is the INT 1000000000, o -m, u the FLOAT 0.0000002: m and it make the FLOAT that comes next but one. */
    private static Session atTheLimit() {
        Session s = new Session();
        s.run("(D m (* 1000000 1000))");
        s.run("(D o (- 0 m))");
        s.run("(D u (/ 0.001 5000))");
        return s;
    }

    private static void limits(Checks checks, String[] inside, String[] outside, double limit) {
        for (String text : inside) {
            Session s = atTheLimit();
            s.run(text);
            checks.due(text, s.number(0), limit);
        }
        for (String text : outside) {
            Session s = atTheLimit();
            checks.due(text, s.value(text), "arithmetic");
            checks.due("the VALUE after it", s.written() + s.number(0), "~" + 0.001 / 5000);
        }
    }

    private static void aboveTheLimit(Checks checks) {
        checks.sentence("a FLOAT of + - * / above 1000000000.0: ArithmeticException");
        limits(checks, new String[] {"(+ m 0.0)", "(+ 0.0 m)", "(- m 0.0)", "(* m 1.0)", "(* 31250 32000.0)", "(/ m 1)",
            "(/ m 1.0)", "(+ 999999999 1.0)", "(- 99999999.0 (- 0 900000001))", "(/ o (- 0 1))", "(* o (- 0.0 1))"},
            new String[] {"(+ m u)", "(+ m 0.001)", "(- m (- 0 u))", "(* m 1.001)", "(/ m 0.999)", "(* 31250 32000.001)",
                "(/ 999999999 0.5)", "(/ 1000001 0.001)"}, 1000000000.0);
    }

    private static void belowTheLimit(Checks checks) {
        checks.sentence("or below -1000000000.0: ArithmeticException");
        limits(checks, new String[] {"(+ o 0.0)", "(- 0.0 m)", "(- o 0.0)", "(* o 1.0)", "(* 31250 (- 0 32000.0))",
            "(/ o 1)", "(/ o 1.0)", "(/ m (- 0 1))"},
            new String[] {"(- o u)", "(- o 0.001)", "(* o 1.001)", "(/ o 0.999)", "(/ o 0.5)", "(* 1.001 o)"},
            -1000000000.0);
    }

    private static void onlyFloatsAreLimited(Checks checks) {
        checks.sentence("a FLOAT of + - * /");
        Session s = withEnds();
        checks.due("INTS may be above", s.value("(+ 999999999 999999999)"), "1999999998");
        checks.due("INTS may be below", s.value("(- (- 0 999999999) 999999999)"), "-1999999998");
        checks.due("as FLOATS they are compared", s.value("(< 1.5 a)") + s.value("(< b 1.5)") + s.value("(= a 1.5)"), "??!");
        checks.due("an INT that becomes a FLOAT", s.value("(+ a 0.0)"), "arithmetic");
        checks.due("an INT that becomes a FLOAT", s.value("(/ b 1)"), "arithmetic");
        checks.due("an INT that becomes a FLOAT", s.value("(- a 99999999.0)"), "arithmetic");
        checks.due("an INT above, the FLOAT not", s.value("(* a 0.1)") + s.value("(/ a 1000)"), "~~");
    }

    private static void intsOrFloats(Checks checks) {
        checks.sentence("+ - *: of INTS an INT, else FLOATS. /: FLOATS");
        for (String name : new String[] {"+", "-", "*"}) {
            value(checks, "(" + name + " 6 3)", name.equals("+") ? "9" : name.equals("-") ? "3" : "18");
            value(checks, "(" + name + " 6.0 3)", "~");
            value(checks, "(" + name + " 6 3.0)", "~");
            value(checks, "(" + name + " 6.0 3.0)", "~");
        }
        number(checks, "(+ 6 0.5)", 6.5);
        number(checks, "(- 0.5 6)", -5.5);
        number(checks, "(* 0.1 3)", 0.1 * 3);
        number(checks, "(/ 6 3)", 2.0);
        number(checks, "(/ 7 2)", 3.5);
        number(checks, "(/ 2 3)", 2.0 / 3.0);
        number(checks, "(/ 0.5 4)", 0.125);
    }

    private static void comparing(Checks checks) {
        checks.sentence("< and =: of INTS or FLOATS, as FLOATS if one is");
        String[] texts = {"(< 1 2)", "?", "(< 2 2)", "!", "(< 3 2)", "!", "(< 1.5 2)", "?", "(< 2 1.5)", "!", "(< 2 2.0)", "!",
            "(< 2.0 2)", "!", "(< 1.999 2)", "?", "(< 1.5 1.6)", "?", "(= 2 2)", "?", "(= 2 3)", "!", "(= 2 2.0)", "?",
            "(= 2.0 2)", "?", "(= 2.001 2)", "!", "(= 1.5 1.5)", "?", "(= 0 0.0)", "?", "(= 0.0 (* 0.0 (- 0 1)))", "?",
            "(< (* 0.0 (- 0 1)) 0.0)", "!"};
        for (int i = 0; i < texts.length; i += 2) {
            value(checks, texts[i], texts[i + 1]);
        }
        Session s = withEnds();
        checks.due("far apart", s.value("(< b a)") + s.value("(< a b)") + s.value("(= a b)"), "?!!");
        checks.due("next to one another", s.value("(< (- a 1) a)") + s.value("(= (- a 1) a)"), "?!");
    }

    private static void howManyArguments(Checks checks) {
        checks.sentence("Two ARGUMENTS each, h, t, n, p one");
        for (char name : "+-*/%<=cqhtnp".toCharArray()) {
            int due = "htnp".indexOf(name) >= 0 ? 1 : 2;
            String argument = name == 'h' || name == 't' ? " '(1)" : " 1";
            for (int arguments = 0; arguments <= 7; arguments++) {
                Session s = new Session();
                String answer = s.run("(" + name + argument.repeat(arguments) + ")");
                checks.due(name + " with " + arguments, answer, arguments == due ? "1" : "unfit");
                checks.due("its STEP", s.count(5), 1);
            }
        }
    }

    private static void kindsOfArguments(Checks checks) {
        checks.sentence("+ .. =: no numbers; % FLOATS: UNFIT");
        for (char name : "+-*/%<=".toCharArray()) {
            for (String other : NO_NUMBERS) {
                value(checks, "(" + name + " " + other + " 1)", "unfit");
                value(checks, "(" + name + " 1 " + other + ")", "unfit");
                value(checks, "(" + name + " 1.5 " + other + ")", "unfit");
                value(checks, "(" + name + " " + other + " 0)", "unfit");
            }
        }
        value(checks, "(% 7 2.0)", "unfit");
        value(checks, "(% 7.0 2)", "unfit");
        value(checks, "(% 7.0 2.0)", "unfit");
        value(checks, "(% 7.0 0)", "unfit");
        value(checks, "(% 7 0.0)", "unfit");
    }

    private static void pairsOnly(Checks checks) {
        checks.sentence("h, t: no PAIR: UNFIT");
        for (String name : new String[] {"h", "t"}) {
            for (String other : new String[] {"1", "1.5", "?", "!", "'()", "'a", "+", "(L () 1)"}) {
                value(checks, "(" + name + " " + other + ")", "unfit");
            }
        }
        value(checks, "(h '(1))", "1");
        value(checks, "(t '(1))", "()");
        value(checks, "(h (t '(1 2)))", "2");
        value(checks, "(h (t '(1)))", "unfit");
        value(checks, "(t (c 1 2))", "2");
    }

    private static void anyKind(Checks checks) {
        checks.sentence("n (whether it's the EMPTY LIST), p (whether it's a PAIR)");
        String[] kinds = {"0", "0.0", "?", "!", "'a", "+", "(L () 1)", "'()", "'(1)", "(c 1 2)", "'(())"};
        for (String one : kinds) {
            value(checks, "(n " + one + ")", one.equals("'()") ? "?" : "!");
            value(checks, "(p " + one + ")", one.equals("'(1)") || one.equals("(c 1 2)") || one.equals("'(())") ? "?" : "!");
        }
        value(checks, "(n (t '(1)))", "?");
    }

    private static void theSame(Checks checks) {
        checks.sentence("q (whether two are the same: INTS alike, FLOATS alike, the same NAME, TRUE, FALSE, EMPTY LIST, PAIR or PROCEDURE)");
        String[] kinds = {"1", "2", "1.0", "1.5", "?", "!", "'()", "'a", "'b", "'Q", "+", "h"};
        for (String one : kinds) {
            for (String other : kinds) {
                value(checks, "(q " + one + " " + other + ")", one.equals(other) ? "?" : "!");
            }
            value(checks, "(q " + one + " '(1))", "!");
            value(checks, "(q (L () 1) " + one + ")", "!");
        }
        value(checks, "(q '(1) '(1))", "!");
        value(checks, "(B ((x '(1))) (q x x))", "?");
        value(checks, "(B ((x '(1))) (q x (h (c x 2))))", "?");
        value(checks, "(q (c 1 2) (c 1 2))", "!");
        value(checks, "(B ((x (L () 1))) (q x x))", "?");
        value(checks, "(q (L () 1) (L () 1))", "!");
        value(checks, "(B ((m (L () (L () 1)))) (q (m) (m)))", "!");
        value(checks, "(B ((x +)) (q x +))", "?");
        for (String one : new String[] {"1", "?", "!", "'()", "'a", "+"}) {
            value(checks, "(q (X 1.5 " + one + ") (X 2.5 " + one + "))", "?");
            value(checks, "(q (X 7 " + one + ") " + one + ")", "?");
        }
        value(checks, "(q (X 7 1.5) (X 8 1.5))", "?");
        value(checks, "(q 0 (- 5 5))", "?");
        value(checks, "(q 0.1 (/ 1 10))", "?");
        value(checks, "(q 1 (/ 2 2))", "!");
    }
}
