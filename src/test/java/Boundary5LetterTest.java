/** Promise 5, letter: each sentence that names a boundary. */
public final class Boundary5LetterTest {
    public static void main(String[] args) {
        Checks checks = new Checks();
        decimals(checks);
        singleLetters(checks);
        lists(checks);
        rests(checks);
        characterOrLength(checks);
        eightyCharacters(checks);
        cutAnywhere(checks);
        theLatestValue(checks);
        checks.end();
    }

    private static void written(Checks checks, String text, String due) {
        checks.due(text, new Session().value(text), due);
    }

    private static void decimals(Checks checks) {
        checks.sentence("INTS in decimal");
        written(checks, "0", "0");
        written(checks, "9", "9");
        written(checks, "10", "10");
        written(checks, "100200300", "100200300");
        written(checks, "(- 0 1)", "-1");
        written(checks, "(- 0 10)", "-10");
        written(checks, "(* 1000000 1000)", "1000000000");
        written(checks, "(- (* 65536 32768) 1)", "2147483647");
        written(checks, "(* 65536 32768)", "-2147483648");
        written(checks, "(+ (* 65536 32768) 1)", "-2147483647");
    }

    private static void singleLetters(Checks checks) {
        checks.sentence("FLOATS ~, ?, !, NAMES, PROCEDURES #");
        written(checks, "0.0", "~");
        written(checks, "(- 0 123456.789)", "~");
        written(checks, "(/ 4 2)", "~");
        written(checks, "?", "?");
        written(checks, "!", "!");
        for (char name : "azAZ+-*/%<=".toCharArray()) {
            written(checks, "'" + name, "" + name);
        }
        for (char name : "+-*/%<=chtnpq".toCharArray()) {
            written(checks, "" + name, "#");
        }
        written(checks, "(L () 1)", "#");
        written(checks, "(L (a b) a)", "#");
    }

    private static void lists(Checks checks) {
        checks.sentence("LISTS with single spaces between: (a b), ()");
        written(checks, "'()", "()");
        written(checks, "'(a)", "(a)");
        written(checks, "'(  a   b  )", "(a b)");
        written(checks, "'(())", "(())");
        written(checks, "'(()())", "(() ())");
        written(checks, "'((a)(b c)d)", "((a) (b c) d)");
        written(checks, "'(((((())))))", "(((((())))))");
        written(checks, "''a", "(Q a)");
        written(checks, "(c + (c 1.5 '()))", "(# ~)");
        written(checks, "(c '() '())", "(())");
        written(checks, "(c 1 '(2 3))", "(1 2 3)");
    }

    private static void rests(Checks checks) {
        checks.sentence("(a . b) where a rest is no LIST");
        String[] rests = {"1", "1", "(- 0 1)", "-1", "1.5", "~", "?", "?", "!", "!", "'a", "a", "+", "#", "(L () 1)", "#"};
        for (int i = 0; i < rests.length; i += 2) {
            written(checks, "(c 'a " + rests[i] + ")", "(a . " + rests[i + 1] + ")");
            written(checks, "(c 'a (c 'b " + rests[i] + "))", "(a b . " + rests[i + 1] + ")");
        }
        written(checks, "(c 'a '())", "(a)");
        written(checks, "(c (c 'a 'b) 'd)", "((a . b) . d)");
        written(checks, "(c 'a (c (c 'b 'd) '()))", "(a (b . d))");
    }

    private static void characterOrLength(Checks checks) {
        checks.sentence("character i, or its length (-1). No such character: MISSING");
        String[] texts = {"5", "5", "'()", "()", "(c 1 2)", "(1 . 2)", "(- 0 987)", "-987"};
        for (int i = 0; i < texts.length; i += 2) {
            Session s = new Session();
            s.run(texts[i]);
            String due = texts[i + 1];
            checks.due("length of " + due, s.letter(-1), due.length());
            for (int at = 0; at < due.length(); at++) {
                checks.due("character " + at + " of " + due, s.letter(at), (int) due.charAt(at));
            }
            for (int at : new int[] {due.length(), due.length() + 1, 79, 80, 81, 1000, Integer.MAX_VALUE}) {
                checks.due("character " + at + " of " + due, s.letter(at), "missing");
            }
            for (int at : new int[] {-2, -3, -80, Integer.MIN_VALUE, Integer.MIN_VALUE + 1}) {
                checks.due("character " + at + " of " + due, s.letter(at), "missing");
            }
        }
        Session s = new Session();
        s.run("(c 1.5 2)");
        String before = s.state();
        s.letter(99);
        s.letter(-2);
        checks.due("what MISSING changes", s.state(), before);
    }

    /** f k l puts k a's before l, g k l puts l into k brackets, d k l pairs it with itself k times. */
    private static Session withMakers() {
        Session s = new Session();
        s.run("(D f (L (k l) (I (= k 0) l (f (- k 1) (c 'a l)))))");
        s.run("(D g (L (k l) (I (= k 0) l (g (- k 1) (c l '())))))");
        s.run("(D d (L (k l) (I (= k 0) l (d (- k 1) (c l l)))))");
        return s;
    }

    private static void cut(Checks checks, String text, String whole) {
        Session s = withMakers();
        int length = Math.min(80, whole.length());
        checks.due(text, s.value(text), whole.substring(0, length));
        checks.due("length of " + text, s.letter(-1), length);
        checks.due("the last of " + text, s.letter(length - 1), (int) whole.charAt(length - 1));
        checks.due("behind the end of " + text, s.letter(length), "missing");
    }

    private static void eightyCharacters(Checks checks) {
        checks.sentence("a text ends at 80 characters");
        cut(checks, "(f 38 '())", "(" + "a ".repeat(37) + "a)");
        cut(checks, "(f 39 '())", "(" + "a ".repeat(38) + "a)");
        cut(checks, "(c 10 (f 38 '()))", "(10 " + "a ".repeat(37) + "a)");
        cut(checks, "(c 100 (f 38 '()))", "(100 " + "a ".repeat(37) + "a)");
        cut(checks, "(f 40 '())", "(" + "a ".repeat(39) + "a)");
        cut(checks, "(f 110 '())", "(" + "a ".repeat(109) + "a)");
        cut(checks, "(g 39 'a)", "(".repeat(39) + "a" + ")".repeat(39));
        cut(checks, "(g 39 10)", "(".repeat(39) + "10" + ")".repeat(39));
        cut(checks, "(g 39 100)", "(".repeat(39) + "100" + ")".repeat(39));
        cut(checks, "(g 39 '())", "(".repeat(40) + ")".repeat(40));
        cut(checks, "(g 40 '())", "(".repeat(41) + ")".repeat(41));
        cut(checks, "(g 79 '())", "(".repeat(80) + ")".repeat(80));
        cut(checks, "(g 80 'a)", "(".repeat(80) + "a" + ")".repeat(80));
        cut(checks, "(g 110 'a)", "(".repeat(110) + "a" + ")".repeat(110));
        cut(checks, "(d 110 'a)", "(".repeat(110));
    }

    private static void cutAnywhere(Checks checks) {
        checks.sentence("a text ends at 80 characters, wherever that is");
        for (int letters = 33; letters <= 41; letters++) {
            String begin = "(" + "a ".repeat(letters);
            cut(checks, "(f " + letters + " 123456789)", begin + ". 123456789)");
            cut(checks, "(f " + letters + " (- 0 12345))", begin + ". -12345)");
            cut(checks, "(f " + letters + " 1.5)", begin + ". ~)");
            cut(checks, "(f " + letters + " (c '() (c '() 'b)))", begin + "() () . b)");
            cut(checks, "(f " + letters + " (c (g 3 +) '(d)))", begin + "(((#))) d)");
            cut(checks, "(c 1 (f " + letters + " 987))", "(1 " + begin.substring(1) + ". 987)");
            cut(checks, "(c 1 (f " + letters + " '(? !)))", "(1 " + begin.substring(1) + "? !)");
        }
    }

    private static void theLatestValue(Checks checks) {
        checks.sentence("The latest VALUE written as a text");
        Session s = withMakers();
        s.run("(f 50 '())");
        s.run("5");
        checks.due("a shorter one behind a longer", s.written() + s.letter(1), "5missing");
        s.compile("'(1 2)");
        checks.due("compiled only", s.written(), "5");
        s.run("(h 1)");
        checks.due("thrown", s.written(), "5");
        s.run("(c 1 2)");
        s.collect();
        checks.due("collected", s.written(), "(1 . 2)");
    }
}
