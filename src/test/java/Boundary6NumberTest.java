/** Promise 6, number: each sentence that names a boundary. */
public final class Boundary6NumberTest {
    public static void main(String[] args) {
        Checks checks = new Checks();
        fromZero(checks);
        notThere(checks);
        whoseTildeStands(checks);
        theLatestValue(checks);
        checks.end();
    }

    private static void numbers(Checks checks, String text, double... due) {
        Session s = new Session();
        s.run(text);
        for (int i = 0; i < due.length; i++) {
            checks.due("number " + i + " of " + text, s.number(i), due[i]);
        }
        for (int i : new int[] {-1, -2, Integer.MIN_VALUE, due.length, due.length + 1, Integer.MAX_VALUE}) {
            checks.due("number " + i + " of " + text, s.number(i), "missing");
        }
    }

    private static void fromZero(Checks checks) {
        checks.sentence("The FLOAT that is number i (from 0)");
        numbers(checks, "1.5", 1.5);
        numbers(checks, "0.0", 0.0);
        numbers(checks, "(/ 1 3)", 1.0 / 3.0);
        numbers(checks, "(- 0 2.25)", -2.25);
        numbers(checks, "(+ 999999999 1.0)", 1000000000.0);
        numbers(checks, "'(1.5)", 1.5);
        numbers(checks, "'(1.5 2.5)", 1.5, 2.5);
        numbers(checks, "'(1 2.5 3 (4.5 5 (6.5)) a 7.5)", 2.5, 4.5, 6.5, 7.5);
        numbers(checks, "(c 1.5 2.5)", 1.5, 2.5);
        numbers(checks, "(c (c 1.5 2.5) 3.5)", 1.5, 2.5, 3.5);
        numbers(checks, "(c 1 (c 2 3.5))", 3.5);
        numbers(checks, "(B ((x 1.5)) (c x (c x x)))", 1.5, 1.5, 1.5);
    }

    private static void notThere(Checks checks) {
        checks.sentence("Not there: MISSING");
        for (String text : new String[] {"1", "?", "!", "'a", "'()", "'(1 2)", "+", "(B ((x 1.5)) (L () x))"}) {
            numbers(checks, text);
        }
        Session s = new Session();
        checks.due("a new object", s.number(0), "missing");
        s.run("(c 1.5 2)");
        String before = s.state();
        s.number(1);
        s.number(-1);
        checks.due("what MISSING changes", s.state(), before);
    }

    private static void whoseTildeStands(Checks checks) {
        checks.sentence("of those whose ~ stands in that text");
        Session s = new Session();
        s.run("(D f (L (k l) (I (= k 0) l (f (- k 1) (c (/ k 2) l)))))");
        s.run("(f 40 '())");
        checks.due("40 of 40", s.letter(-1) + " " + s.number(39) + " " + s.number(40), "80 20.0 missing");
        s.run("(f 41 '())");
        checks.due("40 of 41", s.letter(-1) + " " + s.number(39) + " " + s.number(40), "80 20.0 missing");
        s.run("(D g (L (k l) (I (= k 0) l (g (- k 1) (c 'a l)))))");
        s.run("1");
        s.collect();
        s.run("(g 38 1.5)");
        checks.due("a rest that is character 79", s.letter(79) + " " + s.number(0), (int) '~' + " 1.5");
        s.run("(c 10 (g 37 1.5))");
        checks.due("a rest that would be character 80", s.letter(79) + " " + s.number(0), (int) ' ' + " missing");
        s.run("(g 39 '(1.5))");
        checks.due("one that is character 79", s.letter(79) + " " + s.number(0), (int) '~' + " 1.5");
        s.collect();
        s.run("(c 10 (g 38 '(1.5)))");
        checks.due("one that would be character 80", s.letter(79) + " " + s.number(0), (int) ' ' + " missing");
        s.collect();
        s.run("(c 2.5 (g 38 '(1.5)))");
        checks.due("one before it", s.number(0) + " " + s.number(1) + " " + s.number(2), "2.5 1.5 missing");
    }

    private static void theLatestValue(Checks checks) {
        checks.sentence("in that text");
        Session s = new Session();
        s.run("'(1.5 2.5)");
        s.run("(/ 1 0)");
        checks.due("after a run that threw", s.number(1), 2.5);
        s.compile("3.5");
        checks.due("compiled only", s.number(0) + " " + s.number(1), "1.5 2.5");
        s.run();
        checks.due("a shorter one", s.number(0) + " " + s.number(1), "3.5 missing");
        s.run("5");
        checks.due("none", s.number(0), "missing");
    }
}
