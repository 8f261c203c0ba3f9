/** Promise 5: letter. */
public final class Promise5LetterTest {
    public static void main(String[] args) {
        Checks checks = new Checks();
        written(checks, "0", "0");
        written(checks, "(- 0 105)", "-105");
        written(checks, "000000010", "10");
        written(checks, "(- (* 65536 (- 0 32768)) 0)", "-2147483648");
        written(checks, "(- (* 65536 (- 0 32768)) 1)", "2147483647");
        written(checks, "1.5", "~");
        written(checks, "?", "?");
        written(checks, "!", "!");
        written(checks, "'x", "x");
        written(checks, "'K", "K");
        written(checks, "'%", "%");
        written(checks, "+", "#");
        written(checks, "(L () 1)", "#");
        written(checks, "'()", "()");
        written(checks, "'(a)", "(a)");
        written(checks, "'( ( ) (a b)c)", "(() (a b) c)");
        written(checks, "(c 1 2)", "(1 . 2)");
        written(checks, "(c 1 (c 2 +))", "(1 2 . #)");
        written(checks, "(c (c 1 2) '(3))", "((1 . 2) 3)");
        written(checks, "(c 1.5 (- 0 2))", "(~ . -2)");
        written(checks, "'(((((())))))", "(((((())))))");
        written(checks, "'''a", "(Q (Q a))");
        edges(checks);
        theEndOfAText(checks);
        checks.end();
    }

    private static void written(Checks checks, String text, String due) {
        checks.due(text, new Session().value(text), due);
    }

    private static void edges(Checks checks) {
        Session s = new Session();
        s.run("'(a)");
        checks.due("length", s.letter(-1), 3);
        checks.due("first", s.letter(0), (int) '(');
        checks.due("last", s.letter(2), (int) ')');
        checks.due("behind", s.letter(3), "missing");
        checks.due("before", s.letter(-2), "missing");
        checks.due("least", s.letter(Integer.MIN_VALUE), "missing");
        checks.due("most", s.letter(Integer.MAX_VALUE), "missing");
    }

    private static void theEndOfAText(Checks checks) {
        lengthy(checks, "(f 39 '())", "(" + "a ".repeat(38) + "a)");
        lengthy(checks, "(f 40 '())", "(" + "a ".repeat(39) + "a");
        lengthy(checks, "(g 39 'a)", "(".repeat(39) + "a" + ")".repeat(39));
        lengthy(checks, "(g 40 'a)", "(".repeat(40) + "a" + ")".repeat(39));
        lengthy(checks, "(g 100 'a)", "(".repeat(80));
        lengthy(checks, "(d 100 'a)", "(".repeat(80));
        lengthy(checks, "(d 5 'a)", doubled(5).substring(0, 80));
        lengthy(checks, "(f 37 12345678)", "(" + "a ".repeat(37) + ". 123");
        lengthy(checks, "(f 38 1)", "(" + "a ".repeat(38) + ". 1");
        lengthy(checks, "(f 39 1)", "(" + "a ".repeat(39) + ".");
        lengthy(checks, "(f 40 (- 0 1))", "(" + "a ".repeat(39) + "a");
    }

    private static void lengthy(Checks checks, String text, String due) {
        Session s = new Session();
        s.run("(D f (L (k l) (I (= k 0) l (f (- k 1) (c 'a l)))))");
        s.run("(D g (L (k l) (I (= k 0) l (g (- k 1) (c l '())))))");
        s.run("(D d (L (k l) (I (= k 0) l (d (- k 1) (c l l)))))");
        checks.due(text, s.value(text), due);
        checks.due("the last letter of " + text, s.letter(due.length() - 1), (int) due.charAt(due.length() - 1));
        checks.due("the one behind the text of " + text, s.letter(due.length()), "missing");
    }

    /** What (c l l), done so often from a on, is written as. */
    private static String doubled(int times) {
        String all = "a";
        for (int i = 0; i < times; i++) {
            String rest = all.startsWith("(") ? " " + all.substring(1) : " . " + all + ")";
            all = "(" + all + rest;
        }
        return all;
    }
}
