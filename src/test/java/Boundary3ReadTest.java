/** Promise 3, compile, as far as it reads: each sentence about DATA and THE PLACE that names a boundary. */
public final class Boundary3ReadTest {
    public static void main(String[] args) {
        Checks checks = new Checks();
        wholeNumbers(checks);
        digitsBehindThePoint(checks);
        digitsInAll(checks);
        whatAFloatIs(checks);
        partingSpaces(checks);
        everyCharacter(checks);
        emptyLists(checks);
        quotes(checks);
        spaces(checks);
        depths(checks);
        depthsThatEnd(checks);
        oneDatum(checks);
        firstWrongCharacter(checks);
        justTheEnd(checks);
        checks.end();
    }

    private static void unreadable(Checks checks, String text, int place) {
        Session s = new Session();
        checks.due("compile " + text, s.compile(text), "bad");
        checks.due("THE PLACE in " + text, s.count(0), place);
    }

    private static void readable(Checks checks, String text, String written) {
        Session s = new Session();
        checks.due(text, s.value("'" + text), written);
        checks.due("THE PLACE after " + text, s.count(0), -1);
    }

    private static void wholeNumbers(Checks checks) {
        checks.sentence("digits, at most 9; an INT");
        readable(checks, "0", "0");
        readable(checks, "9", "9");
        readable(checks, "12345678", "12345678");
        readable(checks, "999999999", "999999999");
        readable(checks, "000000000", "0");
        readable(checks, "000000012", "12");
        unreadable(checks, "1234567890", 9);
        unreadable(checks, "0000000000", 9);
        unreadable(checks, "0000000012", 9);
        unreadable(checks, "999999999999", 9);
        unreadable(checks, "(1 1234567890)", 12);
        checks.sentence("a tenth digit");
        unreadable(checks, " 1234567890", 10);
        unreadable(checks, "'1234567890", 10);
        unreadable(checks, "123456789 0", 10);
        readable(checks, "(123456789 0)", "(123456789 0)");
    }

    private static void digitsBehindThePoint(Checks checks) {
        checks.sentence("digits, a point and one to three digits");
        readable(checks, "1.2", "~");
        readable(checks, "1.23", "~");
        readable(checks, "1.234", "~");
        unreadable(checks, "1.", 2);
        unreadable(checks, "1. ", 2);
        unreadable(checks, "1.a", 2);
        unreadable(checks, "1..2", 2);
        unreadable(checks, "(1.)", 3);
        unreadable(checks, "1.2345", 5);
        unreadable(checks, "0.0000", 5);
        unreadable(checks, "1.2.3", 3);
        unreadable(checks, "1.234.5", 5);
        unreadable(checks, ".5", 0);
        unreadable(checks, "(.5)", 1);
        unreadable(checks, "(1 .5)", 3);
        unreadable(checks, "1 .5", 2);
    }

    private static void digitsInAll(Checks checks) {
        checks.sentence("with at most 9 digits in all: a FLOAT");
        readable(checks, "12345678.9", "~");
        readable(checks, "1234567.89", "~");
        readable(checks, "123456.789", "~");
        readable(checks, "00000000.0", "~");
        unreadable(checks, "123456789.", 9);
        unreadable(checks, "123456789.1", 9);
        unreadable(checks, "12345678.91", 10);
        unreadable(checks, "1234567.891", 10);
        unreadable(checks, "123456.7891", 10);
        unreadable(checks, "12345678.", 9);
        unreadable(checks, "1234567890.1", 9);
    }

    private static void whatAFloatIs(Checks checks) {
        checks.sentence("a double: the digits without the point, as an int, divided by 10.0, 100.0 or 1000.0");
        whatItIs(checks, "0.0", 0 / 10.0);
        whatItIs(checks, "0.1", 1 / 10.0);
        whatItIs(checks, "0.3", 3 / 10.0);
        whatItIs(checks, "0.10", 10 / 100.0);
        whatItIs(checks, "0.07", 7 / 100.0);
        whatItIs(checks, "4.35", 435 / 100.0);
        whatItIs(checks, "0.001", 1 / 1000.0);
        whatItIs(checks, "1.005", 1005 / 1000.0);
        whatItIs(checks, "8.125", 8125 / 1000.0);
        whatItIs(checks, "12345678.9", 123456789 / 10.0);
        whatItIs(checks, "9999999.99", 999999999 / 100.0);
        whatItIs(checks, "999999.999", 999999999 / 1000.0);
    }

    private static void whatItIs(Checks checks, String text, double due) {
        Session s = new Session();
        s.run(text);
        checks.due(text, s.number(0), due);
    }

    private static void partingSpaces(Checks checks) {
        checks.sentence("spaces parting numbers");
        readable(checks, "(1 2)", "(1 2)");
        readable(checks, "(12)", "(12)");
        readable(checks, "(1   2)", "(1 2)");
        readable(checks, "(1.5 2.5)", "(~ ~)");
        readable(checks, "(1(2)3)", "(1 (2) 3)");
        readable(checks, "(1a2?3!4)", "(1 a 2 ? 3 ! 4)");
        readable(checks, "(1'2)", "(1 (Q 2))");
        readable(checks, "(abK+-)", "(a b K + -)");
    }

    private static void everyCharacter(Checks checks) {
        checks.sentence("a NAME: one of a .. z, A .. Z, + - * / % < =");
        String names = "abcdefghijklmnopqrstuvwxyzABCDEFGHIJKLMNOPQRSTUVWXYZ+-*/%<=";
        String others = "0123456789?!";
        for (char one = 33; one <= 126; one++) {
            if (names.indexOf(one) >= 0) {
                readable(checks, "" + one, "" + one);
                readable(checks, "(1" + one + "2)", "(1 " + one + " 2)");
            } else if (others.indexOf(one) < 0 && one != '(' && one != '\'' && one != ')') {
                unreadable(checks, "" + one, 0);
                unreadable(checks, "(a" + one + ")", 2);
            }
        }
        checks.sentence("? (TRUE), ! (FALSE)");
        readable(checks, "?", "?");
        readable(checks, "!", "!");
        checks.due("? as FALSE", new Session().value("(I ? 1 2)"), "1");
        checks.due("! as FALSE", new Session().value("(I ! 1 2)"), "2");
        checks.due("! for FALSE", new Session().value("(q ! (p 1))"), "?");
        checks.due("? for TRUE", new Session().value("(q ? (n '()))"), "?");
    }

    private static void emptyLists(Checks checks) {
        checks.sentence("( DATA ..  ), a LIST, perhaps empty");
        readable(checks, "()", "()");
        readable(checks, "( )", "()");
        readable(checks, "(())", "(())");
        readable(checks, "(a)", "(a)");
        readable(checks, "(" + "1 ".repeat(30) + ")", "(" + "1 ".repeat(29) + "1)");
        unreadable(checks, ")", 0);
        unreadable(checks, "())", 2);
        unreadable(checks, "(", 1);
    }

    private static void quotes(Checks checks) {
        checks.sentence("' and a DATUM: the LIST (Q datum)");
        readable(checks, "'a", "(Q a)");
        readable(checks, "'()", "(Q ())");
        readable(checks, "' ( a ' b )", "(Q (a (Q b)))");
        unreadable(checks, "'", 1);
        unreadable(checks, "')", 1);
        unreadable(checks, "(')", 2);
        unreadable(checks, "(a')", 3);
        unreadable(checks, "'a b", 3);
    }

    private static void spaces(Checks checks) {
        checks.sentence("Spaces may stand before and behind any DATUM and bracket");
        readable(checks, "  5  ", "5");
        readable(checks, "  (  a  (  )  ' b  1.5  )  ", "(a () (Q b) ~)");
        unreadable(checks, "1 2", 2);
        unreadable(checks, "(1. 5)", 3);
        unreadable(checks, "(1 .5)", 3);
    }

    private static void depths(Checks checks) {
        checks.sentence("LISTS and ' stand at most 8 deep in one another");
        for (int quotes = 0; quotes <= 8; quotes++) {
            String eight = "'".repeat(quotes) + "(".repeat(8 - quotes);
            String end = ")".repeat(8 - quotes);
            Session s = new Session();
            s.compile(eight + "a" + end);
            checks.due(eight + "a" + end, s.count(0), -1);
            unreadable(checks, eight + "(a)" + end, 8);
            unreadable(checks, eight + "'a" + end, 8);
            unreadable(checks, eight + "()" + end, 8);
        }
        checks.due("8 brackets", new Session().compile("((((((((a))))))))"), 9);
        checks.due("8 '", new Session().value("''''''''a"), "(Q ".repeat(7) + "a" + ")".repeat(7));
        checks.sentence("(the (, or ' of the ninth depth");
        unreadable(checks, " ( ( ( ( ( ( ( ( (", 17);
        unreadable(checks, "(a(a(a(a(a(a(a(a(a", 16);
        unreadable(checks, "(1'(1'(1'(1'(a)))))", 12);
        unreadable(checks, "((((((((1 2 'a))))))))", 12);
    }

    private static void depthsThatEnd(Checks checks) {
        checks.sentence("deep in one another");
        readable(checks, "(((((((a)(b)(c)))))))", "(((((((a) (b) (c)))))))");
        readable(checks, "('a'b'd'e'f'g'i'j'k)", "((Q a) (Q b) (Q d) (Q e) (Q f) (Q g) (Q i) (Q j) (Q k))");
        readable(checks, "(()()()()()()()()())", "(() () () () () () () () ())");
        readable(checks, "((((((a)'a)'a)'a)'a)'a)", "((((((a)" + " (Q a))".repeat(5));
        Session s = new Session();
        checks.due("9 deep", s.compile("(((((((((a)))))))))"), "bad");
        checks.due("8 deep after it", s.compile("((((((((a))))))))"), 9);
    }

    private static void oneDatum(Checks checks) {
        checks.sentence("A text has just one DATUM");
        unreadable(checks, "", 0);
        unreadable(checks, " ", 1);
        unreadable(checks, "a b", 2);
        unreadable(checks, "ab", 1);
        unreadable(checks, "1a", 1);
        unreadable(checks, "1(", 1);
        unreadable(checks, "(a)(b)", 3);
        unreadable(checks, "(a) 'b", 4);
        unreadable(checks, "'a'b", 2);
        unreadable(checks, "?!", 1);
        unreadable(checks, "()()", 2);
        checks.due("one", new Session().compile("a"), 1);
        checks.due("one in spaces", new Session().compile("   a   "), 1);
    }

    private static void firstWrongCharacter(Checks checks) {
        checks.sentence("its first character with which, after those before, nothing right could begin");
        unreadable(checks, "#", 0);
        unreadable(checks, "  #", 2);
        unreadable(checks, "(+ 1 #)", 5);
        unreadable(checks, "(+ 1 2))", 7);
        unreadable(checks, "(+ 1 2) #", 8);
        unreadable(checks, "(a #(((((((((", 3);
        unreadable(checks, "(1.#", 3);
        unreadable(checks, "12#", 2);
        unreadable(checks, "a" + " ".repeat(62) + "b", 63);
        unreadable(checks, "(K ()) (", 7);
    }

    private static void justTheEnd(Checks checks) {
        checks.sentence("or its length, if just the end is wrong");
        unreadable(checks, "", 0);
        unreadable(checks, "   ", 3);
        unreadable(checks, "(", 1);
        unreadable(checks, "(a", 2);
        unreadable(checks, "(a ", 3);
        unreadable(checks, "(()", 3);
        unreadable(checks, "((((((((", 8);
        unreadable(checks, "'", 1);
        unreadable(checks, "'  ", 3);
        unreadable(checks, "''''''''", 8);
        unreadable(checks, "1.", 2);
        unreadable(checks, "(12345678.", 10);
        unreadable(checks, "(" + " ".repeat(63), 64);
        unreadable(checks, " ".repeat(64), 64);
    }
}
