/** Promise 3, compile, as far as it compiles: each sentence about FORMS, WRONG and INSTRUCTIONS that names a boundary. */
public final class Boundary3FormTest {
    private static final String VARIABLES = "abcdefghijklmnopqrstuvwxyz+-*/%<=";
    private static final String CAPITALS = "ABCDEFGHIJKLMNOPQRSTUVWXYZ";
    /** Each place where an EXPRESSION can stand; the e is written _. */
    private static final String[] AROUND_AN_EXPRESSION = {"_", "(D a _)", "(I _ 1 2)", "(I 1 _ 2)", "(I 1 2 _)", "(S a _)",
        "(L () _)", "(L (a) _)", "(B () _)", "(B ((a _)) 1)", "(B ((a 1) (b _)) 1)", "(A _)", "(A _ 1)", "(A 1 _)",
        "(A 1 _ 2)", "(O _)", "(O _ 1)", "(O 1 _)", "(O 1 _ 2)", "(C (_ 1))", "(C (1 _))", "(C (1 2) (_ 1))",
        "(C (1 2) (1 _))", "(N a () _)", "(N a ((b _)) 1)", "(N a ((b 1) (d _)) 1)", "(X _)", "(X _ 1)", "(X 1 _)",
        "(X 1 _ 2)", "(_)", "(_ 1)", "(+ _ 1)", "(+ 1 _)"};
    /** Each place where a v can stand. */
    private static final String[] AROUND_A_VARIABLE = {"(S _ 1)", "(D _ 1)", "(L (_) 1)", "(B ((_ 1)) 1)", "(N _ () 1)",
        "(N _ ((_ 1)) 1)"};

    public static void main(String[] args) {
        Checks checks = new Checks();
        theQuote(checks);
        theChoice(checks);
        settingAndDefining(checks);
        theWholeTextOnly(checks);
        names(checks);
        variables(checks);
        bindings(checks);
        allAndOne(checks);
        cases(checks);
        loops(checks);
        sequences(checks);
        calls(checks);
        emptyListAndCapitals(checks);
        instructions(checks);
        roomForPairs(checks);
        oneRoomForAllPairs(checks);
        whatIsLeft(checks);
        checks.end();
    }

    private static void wrong(Checks checks, String text) {
        Session s = new Session();
        checks.due(text, s.compile(text), "bad");
        checks.due("THE PLACE, text, OBJECTS and EXPRESSION after " + text,
            s.count(0) + " " + s.count(1) + s.count(4) + s.count(7), "-1 000");
    }

    private static void right(Checks checks, String text, int instructions) {
        Session s = new Session();
        checks.due(text, s.compile(text), instructions);
        checks.due("text and EXPRESSION after " + text, s.count(1) + s.count(7), "01");
    }

    private static void theQuote(Checks checks) {
        checks.sentence("(Q datum)");
        wrong(checks, "(Q)");
        right(checks, "(Q a)", 1);
        right(checks, "(Q ())", 1);
        right(checks, "(Q (K ()))", 1);
        right(checks, "'D", 1);
        wrong(checks, "(Q a b)");
        wrong(checks, "(Q a ())");
    }

    private static void theChoice(Checks checks) {
        checks.sentence("(I e e e)");
        wrong(checks, "(I)");
        wrong(checks, "(I 1)");
        wrong(checks, "(I 1 2)");
        right(checks, "(I 1 2 3)", 5);
        wrong(checks, "(I 1 2 3 4)");
    }

    private static void settingAndDefining(Checks checks) {
        for (String name : new String[] {"S", "D"}) {
            checks.sentence("(" + name + " v e)");
            wrong(checks, "(" + name + ")");
            wrong(checks, "(" + name + " a)");
            right(checks, "(" + name + " a 1)", 2);
            wrong(checks, "(" + name + " a 1 2)");
            wrong(checks, "(" + name + " 1 a)");
        }
    }

    private static void theWholeTextOnly(Checks checks) {
        checks.sentence("(D v e), as the whole text only");
        right(checks, " ( D b 1 ) ", 2);
        right(checks, "'(D b 1)", 1);
        for (String around : AROUND_AN_EXPRESSION) {
            if (!around.equals("_")) {
                wrong(checks, around.replace("_", "(D b 1)"));
            }
        }
    }

    private static void names(Checks checks) {
        checks.sentence("(L (v ..) e), at most 6 v's, none twice");
        String six = "abcdef";
        for (int size = 0; size <= 6; size++) {
            right(checks, "(L (" + six.substring(0, size) + ") 1)", 3);
        }
        right(checks, "(L (u v w x y z) 1)", 3);
        wrong(checks, "(L (abcdefg) 1)");
        wrong(checks, "(L (abcdefghijklmnopqrstuvwxyz+-*/%<=) 1)");
        for (int one = 0; one < 6; one++) {
            for (int other = one + 1; other < 6; other++) {
                char twice = six.charAt(one);
                wrong(checks, "(L (" + six.substring(0, other) + twice + six.substring(other + 1) + ") 1)");
            }
        }
        right(checks, "(L (a) (L (a) 1))", 5);
        wrong(checks, "(L)");
        wrong(checks, "(L ())");
        wrong(checks, "(L () 1 2)");
        wrong(checks, "(L a 1)");
        wrong(checks, "(L 1 1)");
        wrong(checks, "(L ! 1)");
        wrong(checks, "(L K 1)");
        wrong(checks, "(L 'a 1)");
    }

    private static void variables(Checks checks) {
        checks.sentence("v a NAME a .. z or + - * / % < =");
        for (String around : AROUND_A_VARIABLE) {
            for (char name : VARIABLES.toCharArray()) {
                Session s = new Session();
                checks.due(around + " with " + name, s.compile(around.replace('_', name)).equals("bad"), false);
            }
            for (char name : CAPITALS.toCharArray()) {
                wrong(checks, around.replace('_', name));
            }
            for (String other : new String[] {"1", "1.5", "?", "!", "()", "(a)", "'a"}) {
                wrong(checks, around.replace("_", other));
            }
        }
    }

    private static void bindings(Checks checks) {
        checks.sentence("(B ((v e) ..) e): ((L (v ..) e) e ..)");
        right(checks, "(B () 1)", 4);
        right(checks, "(B ((a 1)) 1)", 5);
        right(checks, "(B ((a 1)(b 1)(c 1)(d 1)(e 1)(f 1)) 1)", 10);
        wrong(checks, "(B ((a 1)(b 1)(c 1)(d 1)(e 1)(f 1)(g 1)) 1)");
        wrong(checks, "(B ((a 1)(a 1)) 1)");
        wrong(checks, "(B ((a 1)(b 1)(c 1)(d 1)(e 1)(a 1)) 1)");
        wrong(checks, "(B)");
        wrong(checks, "(B ())");
        wrong(checks, "(B () 1 2)");
        wrong(checks, "(B a 1)");
        wrong(checks, "(B 1 1)");
        wrong(checks, "(B (a) 1)");
        wrong(checks, "(B (()) 1)");
        wrong(checks, "(B ((a)) 1)");
        wrong(checks, "(B ((a 1 2)) 1)");
        wrong(checks, "(B ((a 1) ()) 1)");
        wrong(checks, "(B 'a 1)");
    }

    private static void allAndOne(Checks checks) {
        checks.sentence("(A e ..): without e: ?; one: that; else (I first (A the rest) !)");
        right(checks, "(A)", 1);
        right(checks, "(A (+ 1 2))", 4);
        right(checks, "(A 1 2)", 5);
        right(checks, "(A 1 2 3)", 9);
        right(checks, "(A" + "a".repeat(61) + ")", 241);
        checks.due("without", new Session().value("(A)"), "?");
        checks.due("one", new Session().value("(A 5)"), "5");
        checks.due("one that is FALSE", new Session().value("(A !)"), "!");
        checks.due("two", new Session().value("(A 5 6)"), "6");
        checks.due("two, the first FALSE", new Session().value("(A ! z)"), "!");
        checks.due("the last of 61", new Session().value("(A" + "+".repeat(60) + "z)"), "missing");
        checks.due("in a CALL", new Session().value("(c (A ! z) (c (A 1 ! z) (A 1 2 3)))"), "(! ! . 3)");
        checks.sentence("(O e ..): without: !; one: that; else (O e1 rest ..) is (I e1 ? (O the rest))");
        right(checks, "(O)", 1);
        right(checks, "(O (+ 1 2))", 4);
        right(checks, "(O 1 2)", 5);
        right(checks, "(O 1 2 3)", 9);
        right(checks, "(O" + "a".repeat(61) + ")", 241);
        checks.due("without", new Session().value("(O)"), "!");
        checks.due("one", new Session().value("(O 5)"), "5");
        checks.due("two", new Session().value("(O 5 z)"), "?");
        checks.due("two, the first FALSE", new Session().value("(O ! 6)"), "6");
        checks.due("the last of 61", new Session().value("(O" + "!".repeat(60) + "+)"), "#");
        checks.due("in a CALL", new Session().value("(c (O ! 1) (c (O 1 z) (O ! ! !)))"), "(1 ? . !)");
    }

    private static void cases(Checks checks) {
        checks.sentence("(C (e e) ..): without: !; else (I e e (C the rest))");
        right(checks, "(C)", 1);
        right(checks, "(C (1 2))", 5);
        right(checks, "(C (1 2) (3 4))", 9);
        right(checks, "(C" + "(aa)".repeat(15) + ")", 61);
        checks.due("without", new Session().value("(C)"), "!");
        checks.due("none of them", new Session().value("(C (! 1) (! 2))"), "!");
        checks.due("the last of them", new Session().value("(C" + "(!z)".repeat(14) + "(?+))"), "#");
        checks.due("in a CALL", new Session().value("(c (C (! z) (1 2)) (c (C (1 3) (z z)) (C (! z))))"), "(2 3 . !)");
        wrong(checks, "(C 1)");
        wrong(checks, "(C ())");
        wrong(checks, "(C (1))");
        wrong(checks, "(C (1 2 3))");
        wrong(checks, "(C (1 2) 3)");
        wrong(checks, "(C (1 2) (3))");
        wrong(checks, "(C 'a)");
    }

    private static void loops(Checks checks) {
        checks.sentence("(N v ((w e) ..) f): a LOOP");
        right(checks, "(N a () 1)", 11);
        right(checks, "(N a ((b 1)) 1)", 12);
        right(checks, "(N a ((a 1)) 1)", 12);
        right(checks, "(N l ((a 1)(b 1)(c 1)(d 1)(e 1)(f 1)) 1)", 17);
        wrong(checks, "(N l ((a 1)(b 1)(c 1)(d 1)(e 1)(f 1)(g 1)) 1)");
        wrong(checks, "(N a ((b 1)(b 2)) 1)");
        wrong(checks, "(N l ((a 1)(b 1)(c 1)(d 1)(e 1)(a 1)) 1)");
        wrong(checks, "(N)");
        wrong(checks, "(N a)");
        wrong(checks, "(N a ())");
        wrong(checks, "(N a () 1 2)");
        wrong(checks, "(N () 1)");
        wrong(checks, "(N a b 1)");
        wrong(checks, "(N a 1 1)");
        wrong(checks, "(N a (b) 1)");
        wrong(checks, "(N a (()) 1)");
        wrong(checks, "(N a ((b)) 1)");
        wrong(checks, "(N a ((b 1 2)) 1)");
        right(checks, "(Na()".repeat(7) + "a" + ")".repeat(7), 71);
    }

    private static void sequences(Checks checks) {
        checks.sentence("(X e e ..): at least one");
        wrong(checks, "(X)");
        right(checks, "(X 1)", 1);
        right(checks, "(X 1 2)", 3);
        right(checks, "(X" + "a".repeat(61) + ")", 121);
        checks.due("the last one's VALUE", new Session().value("(X 1 2 3)"), "3");
        checks.due("that of one", new Session().value("(X 3)"), "3");
    }

    private static void calls(Checks checks) {
        checks.sentence("CALL: (e e ..), the first being the PROCEDURE");
        right(checks, "(a)", 2);
        right(checks, "(a 1)", 3);
        right(checks, "(" + "a".repeat(62) + ")", 63);
        right(checks, "(1)", 2);
        right(checks, "(? 1)", 3);
        right(checks, "(1.5 1)", 3);
        right(checks, "('a 1)", 3);
        right(checks, "((a) 1)", 4);
        for (char name : VARIABLES.toCharArray()) {
            right(checks, "(" + name + " 1)", 3);
        }
    }

    private static void emptyListAndCapitals(Checks checks) {
        checks.sentence("The empty LIST, a FORM that isn't so, a LIST that begins with another A .. Z, and such a NAME alone: WRONG");
        for (String around : AROUND_AN_EXPRESSION) {
            for (String inside : new String[] {"()", "(X)", "(K 1)", "(K)", "K", "Z"}) {
                wrong(checks, around.replace("_", inside));
            }
            Session s = new Session();
            checks.due(around + " with 5", s.compile(around.replace("_", "5")).equals("bad"), false);
        }
        for (char name : CAPITALS.toCharArray()) {
            wrong(checks, "" + name);
            wrong(checks, "(+ " + name + " 1)");
            boolean form = "QISDLBAOCNX".indexOf(name) >= 0;
            for (int size = 0; size < 4 && !form; size++) {
                wrong(checks, "(" + name + " a".repeat(size) + ")");
            }
        }
    }

    private static void instructions(Checks checks) {
        checks.sentence("INSTRUCTIONS of an EXPRESSION");
        for (String one : new String[] {"5", "1.5", "?", "!", "'()", "'(a b (c))", "a", "%"}) {
            right(checks, one, 1);
        }
        for (String around : AROUND_AN_EXPRESSION) {
            int small = Integer.parseInt(new Session().compile(around.replace("_", "1")));
            right(checks, around.replace("_", "(+ 1 2)"), small + 3);
        }
        right(checks, "(L () 1)", 3);
        right(checks, "(S a 1)", 2);
        right(checks, "(D a 1)", 2);
        right(checks, "(I 1 2 3)", 5);
        right(checks, "(X 1 2 3)", 5);
        right(checks, "(a 1 2)", 4);
    }

    private static void roomForPairs(Checks checks) {
        checks.sentence("PAIRS of a text's Q's for which there's no room: WRONG, and none of them come to be");
        int[] sizes = {1, 2, 3, 10, 25};
        for (int size : sizes) {
            String text = "'(" + "1 ".repeat(size) + ")";
            Session room = Session.with(120 - size);
            checks.due(size + " for " + size, room.compile(text) + " " + room.count(3) + " " + room.count(4), "1 120 120");
            checks.due("it runs", room.run() + room.letter(1), "0" + (int) '1');
            Session none = Session.with(121 - size);
            checks.due(size + " for " + (size - 1), none.compile(text), "bad");
            checks.due("OBJECTS then", none.count(3) + " " + none.count(4), 121 - size + " " + (121 - size));
            checks.due("THE PLACE, text and EXPRESSION then", none.count(0) + " " + none.count(1) + none.count(7), "-1 00");
            checks.due("run then", none.run(), "missing");
        }
        Session full = Session.with(120);
        for (String text : new String[] {"'()", "'a", "1", "1.5", "'1.5", "(X '() 'a '?)", "(D b 1)", "(L () '())"}) {
            checks.due(text + " when it's full", full.compile(text).equals("bad"), false);
        }
        for (String text : new String[] {"'(a)", "''a", "(L () '(1))", "(I ? 1 '(1))", "(D b '(()))", "(B ((x '(1))) 2)"}) {
            checks.due(text + " when it's full", full.compile(text), "bad");
        }
        checks.due("still full", full.count(3) + " " + full.count(4), "120 120");
    }

    private static void oneRoomForAllPairs(Checks checks) {
        checks.sentence("none of them come to be");
        checks.due("two Q's of 3 in all, room for 3", Session.with(117).compile("(X '(1 2) '(3))"), 3);
        Session s = Session.with(118);
        checks.due("two Q's of 3 in all, room for 2", s.compile("(X '(1 2) '(3))"), "bad");
        checks.due("OBJECTS then", s.count(3) + " " + s.count(4), "118 118");
        checks.due("lists in a list, room for 5", Session.with(115).compile("'(1 (2 (3)))"), 1);
        checks.due("lists in a list, room for 4", Session.with(116).compile("'(1 (2 (3)))"), "bad");
        checks.due("'''a, room for 4", Session.with(116).compile("'''a"), 1);
        checks.due("'''a, room for 3", Session.with(117).compile("'''a"), "bad");
        checks.due("WRONG beside it", Session.with(1).compile("(X '(1 2) K)"), "bad");
        s = Session.with(1);
        s.compile("(X '(1 2) K)");
        checks.due("OBJECTS when WRONG", s.count(3) + " " + s.count(4), "1 1");
        s.compile("(X '(1 2) ");
        checks.due("OBJECTS when it can't be read", s.count(3) + " " + s.count(4), "1 1");
        s = Session.with(119);
        s.run("(D a 1)");
        checks.due("what nothing leads to takes room, too", s.compile("'(1 2)"), "bad");
        s.collect();
        checks.due("room again", s.compile("'(1 2)"), 1);
    }

    private static void whatIsLeft(Checks checks) {
        checks.sentence("The text, empty then also if it's bad");
        for (String text : new String[] {"1", "(", "K", ""}) {
            Session s = new Session();
            s.compile(text);
            checks.due("length after " + text, s.count(1), 0);
            checks.due("the next one after " + text, s.compile("(+ 1 2)") + s.run() + s.written(), "413");
        }
        checks.sentence("unless it's bad: then there is none");
        for (String text : new String[] {"(", "K", "", "(X)"}) {
            Session s = new Session();
            s.run("(D a '(1 2.5))");
            String kept = s.count(2) + s.count(3) + s.count(4) + s.work() + s.written() + s.number(0);
            checks.due("compile " + text, s.compile(text), "bad");
            checks.due("at hand after " + text, s.count(7) + s.run(), "0missing");
            checks.due("all else after " + text, s.count(2) + s.count(3) + s.count(4) + s.work() + s.written() + s.number(0),
                kept);
        }
        Session s = new Session();
        s.compile("(D a 1)");
        checks.due("compile runs nothing", s.count(2) + s.written(), "13!");
    }
}
