/** Promise 6: number. */
public final class Promise6NumberTest {
    public static void main(String[] args) {
        Checks checks = new Checks();
        read(checks, "2.5", "2.5");
        read(checks, "0.1", "0.1");
        read(checks, "12345.25", "12345.25");
        read(checks, "999999.999", "999999.999");
        read(checks, "00.007", "0.007");
        read(checks, "(/ 7 2)", "3.5");
        read(checks, "(/ 6 2)", "3.0");
        read(checks, "(- 1 2.25)", "-1.25");
        read(checks, "(* 2 0.1)", String.valueOf(2 * 0.1));
        read(checks, "(+ 999999999 1.0)", "1.0E9");
        read(checks, "5", "missing");
        read(checks, "'x", "missing");
        several(checks);
        onlyThoseInTheText(checks);
        checks.end();
    }

    private static void read(Checks checks, String text, String due) {
        Session s = new Session();
        s.run(text);
        checks.due(text, s.number(0), due);
    }

    private static void several(Checks checks) {
        Session s = new Session();
        s.run("'(1 2.5 (3.5 a) 4.125)");
        checks.due("number 0", s.number(0), 2.5);
        checks.due("number 1", s.number(1), 3.5);
        checks.due("number 2", s.number(2), 4.125);
        checks.due("number 3", s.number(3), "missing");
        checks.due("number -1", s.number(-1), "missing");
        checks.due("most", s.number(Integer.MAX_VALUE), "missing");
        checks.due("least", s.number(Integer.MIN_VALUE), "missing");
        s.run("(/ 1 0)");
        checks.due("after a throw", s.number(2), 4.125);
        s.run("(c 1.5 0.5)");
        checks.due("rest", s.number(1), 0.5);
        checks.due("no more", s.number(2), "missing");
    }

    private static void onlyThoseInTheText(Checks checks) {
        Session s = new Session();
        s.run("(D f (L (k l) (I (= k 0) l (f (- k 1) (c (/ k 2) l)))))");
        s.run("(f 41 '())");
        checks.due("the last of 40", s.number(39), 20.0);
        checks.due("one behind the end", s.number(40), "missing");

        Session rest = new Session();
        rest.run("(D f (L (k l) (I (= k 0) l (f (- k 1) (c 'a l)))))");
        rest.run("(f 38 1.5)");
        checks.due("a rest whose ~ is letter 79", rest.number(0), 1.5);
        rest.run("(f 39 1.5)");
        checks.due("a rest behind the end", rest.number(0), "missing");
    }
}
