/** Promise 3: compile. */
public final class Promise3CompileTest {
    public static void main(String[] args) {
        Checks checks = new Checks();
        places(checks);
        readable(checks);
        instructions(checks);
        wrongForms(checks);
        whatItLeaves(checks);
        roomForPairs(checks);
        checks.end();
    }

    private static void place(Checks checks, String text, int due) {
        Session s = new Session();
        checks.due("compile " + text, s.compile(text), "bad");
        checks.due("place in " + text, s.count(0), due);
    }

    private static void places(Checks checks) {
        place(checks, "", 0);
        place(checks, "   ", 3);
        place(checks, "1234567890", 9);
        place(checks, "123456789.", 9);
        place(checks, "12345678.12", 10);
        place(checks, "123456.1234", 10);
        place(checks, "1234567.123", 10);
        place(checks, "1.2345", 5);
        place(checks, "1.", 2);
        place(checks, "1. 5", 2);
        place(checks, "1.5.5", 3);
        place(checks, "(1.)", 3);
        place(checks, ".5", 0);
        place(checks, "1 2", 2);
        place(checks, "1a", 1);
        place(checks, "a b", 2);
        place(checks, ")", 0);
        place(checks, "(a", 2);
        place(checks, "(a  ", 4);
        place(checks, "(a))", 3);
        place(checks, "'", 1);
        place(checks, "' ", 2);
        place(checks, "')", 1);
        place(checks, "(')", 2);
        place(checks, "(a>b)", 2);
        place(checks, "(a . b)", 3);
        place(checks, "(((((((((", 8);
        place(checks, "(((((((('a", 8);
        place(checks, "''''''''(", 8);
        place(checks, "''''''''')", 8);
        place(checks, "((((((((a))))))))b", 17);
        for (char other : "\"#$&,.:;>@[\\]^_`{|}~)".toCharArray()) {
            place(checks, " " + other, 1);
        }
    }

    private static void instructions(Checks checks, String text, int due) {
        checks.due("instructions of " + text, new Session().compile(text), due);
    }

    private static void readable(Checks checks) {
        instructions(checks, "  123456789  ", 1);
        instructions(checks, "12345678.9", 1);
        instructions(checks, "123456.789", 1);
        instructions(checks, "''''''''a", 1);
        instructions(checks, "'(((((((a)))))))", 1);
        instructions(checks, "((((((((a))))))))", 9);
        instructions(checks, " ( + 1 2 ) ", 4);
        instructions(checks, "(+1 2)", 4);
        instructions(checks, "(1a2?!b)", 7);
        instructions(checks, "' ( a b ) ", 1);
        instructions(checks, "(1'2.5'(3)4)", 5);
    }

    private static void instructions(Checks checks) {
        instructions(checks, "?", 1);
        instructions(checks, "!", 1);
        instructions(checks, "a", 1);
        instructions(checks, "%", 1);
        instructions(checks, "(Q K)", 1);
        instructions(checks, "(Q(D x))", 1);
        instructions(checks, "(L()1)", 3);
        instructions(checks, "(S a 1)", 2);
        instructions(checks, "(D a 1)", 2);
        instructions(checks, "(I 1 2 3)", 5);
        instructions(checks, "(X 1)", 1);
        instructions(checks, "(X 1 2 3)", 5);
        instructions(checks, "(a)", 2);
        instructions(checks, "(1 2 3)", 4);
        instructions(checks, "(B()1)", 4);
        instructions(checks, "(B((a 1)(b(+ 1 2)))c)", 9);
        instructions(checks, "(A)", 1);
        instructions(checks, "(A 1)", 1);
        instructions(checks, "(A 1 2)", 5);
        instructions(checks, "(A 1 2 3)", 9);
        instructions(checks, "(O)", 1);
        instructions(checks, "(O 1)", 1);
        instructions(checks, "(O 1 2)", 5);
        instructions(checks, "(O 1 2 3)", 9);
        instructions(checks, "(C)", 1);
        instructions(checks, "(C(1 2))", 5);
        instructions(checks, "(C(1 2)(3 4))", 9);
        instructions(checks, "(N a()1)", 11);
        instructions(checks, "(N a((a 1)(b 2))a)", 13);
        instructions(checks, "(A" + "a".repeat(61) + ")", 241);
        instructions(checks, "(O" + "a".repeat(61) + ")", 241);
        instructions(checks, "(C" + "(aa)".repeat(15) + ")", 61);
        instructions(checks, "(" + "a".repeat(62) + ")", 63);
        instructions(checks, "(Na()".repeat(7) + "a" + ")".repeat(7), 71);
    }

    private static void wrongForms(Checks checks) {
        String[] wrong = {"()", "(())", "K", "Q", "L", "(K)", "(E 1 2)", "(Q)", "(Q 1 2)", "(I)", "(I 1)", "(I 1 2)",
            "(I 1 2 3 4)", "(S)", "(S a)", "(S a 1 2)", "(S K 1)", "(S 1 1)", "(S (a) 1)", "(D a)", "(D a 1 2)", "(D D 1)",
            "(D 1 1)", "(D 'a 1)", "(D a (D b 1))", "(X (D a 1))", "(A (D a 1))", "((D a 1))", "(L)", "(L ())", "(L () 1 2)",
            "(L a 1)", "(L (1) 1)", "(L ((a)) 1)", "(L (K) 1)", "(L (a b a) 1)", "(L (a b c d e f g) 1)", "(L 'a 1)",
            "(B)", "(B ())", "(B () 1 2)", "(B a 1)", "(B (a) 1)", "(B ((a)) 1)", "(B ((a 1 2)) 1)", "(B ((1 1)) 1)",
            "(B ((a 1)(a 2)) 1)", "(B(())1)", "(B ((a 1)(b 1)(c 1)(d 1)(e 1)(f 1)(g 1)) 1)", "(B ('1) 1)",
            "(C 1)", "(C ())", "(C (1))", "(C (1 2 3))", "(C '1)", "(C (1 2) 3)", "(N)", "(N a)", "(N a ())",
            "(N a () 1 2)", "(N K () 1)", "(N 5 () 1)", "(N a b 1)", "(N a (b) 1)", "(N a ((b)) 1)", "(N a ((b 1)(b 2)) 1)",
            "(N a((b 1)(c 1)(d 1)(e 1)(f 1)(g 1)(h 1))1)", "(X)", "(X 1 K)", "(+ 1 ())", "(A 1 K)", "(O K)", "(L () ())"};
        for (String text : wrong) {
            Session s = new Session();
            checks.due("compile " + text, s.compile(text), "bad");
            checks.due("place after " + text, s.count(0), -1);
        }
    }

    private static void whatItLeaves(Checks checks) {
        Session s = new Session();
        checks.due("first", s.compile("1") + s.count(7) + s.count(1), "110");
        checks.due("WRONG", s.compile("K") + s.count(7) + s.count(1), "bad00");
        checks.due("nothing to run", s.run(), "missing");
        checks.due("unreadable", s.compile("(a") + s.count(7) + s.count(1) + s.count(0), "bad002");
        checks.due("WRONG leaves THE PLACE", s.compile("()") + s.count(0), "bad2");
        checks.due("right leaves THE PLACE", s.compile("1") + s.count(0), "12");
        checks.due("WRONG makes no PAIRS", s.compile("(X '(1 2) K)") + s.count(3) + s.count(4), "bad00");
        checks.due("compile runs nothing", s.compile("(D a 1)") + s.count(2), "213");
    }

    private static void roomForPairs(Checks checks) {
        Session s = new Session();
        checks.due("PAIRS", s.compile("(X '(a (b c)) ''d '())") + s.count(3) + " " + s.count(4), "56 6");
        s.run("(D f (L (k l) (I (= k 0) l (f (- k 1) (c k l)))))");
        s.run("(D a (f 99 '()))");
        s.run("(D b (f 11 '()))");
        checks.due("117 there", s.count(3), 117);
        checks.due("four more", s.compile("(X '(1 2) '(3 4))"), "bad");
        checks.due("none of them", s.count(3) + s.count(4) + s.count(7), "1171170");
        checks.due("three more", s.compile("(X '(1 2) '(3))"), 3);
        checks.due("all there", s.count(3) + s.count(4), "120120");
        checks.due("no PAIR needed", s.compile("(X 1.5 'a '())"), 5);
        checks.due("one more", s.compile("'(1)"), "bad");
    }
}
