/** Promise 1, a new object: each sentence that names a boundary. */
public final class Boundary1NewObjectTest {
    public static void main(String[] args) {
        Checks checks = new Checks();
        globalsAtFirst(checks);
        whatTheyDo(checks);
        latestValue(checks);
        nothingElse(checks);
        checks.end();
    }

    private static void globalsAtFirst(Checks checks) {
        checks.sentence("GLOBALS at first: + - * / % < =, and c, h, t, n, p, q");
        checks.due("how many", new Session().count(2), 13);
        for (char name : "abcdefghijklmnopqrstuvwxyz+-*/%<=".toCharArray()) {
            boolean there = "+-*/%<=chtnpq".indexOf(name) >= 0;
            checks.due("" + name, new Session().value("" + name), there ? "#" : "missing");
            checks.due("S of " + name, new Session().value("(S " + name + " 5)"), there ? "5" : "missing");
        }
    }

    private static void whatTheyDo(Checks checks) {
        checks.sentence("The GLOBALS as said");
        String[] texts = {"(+ 7 2)", "9", "(- 7 2)", "5", "(* 7 2)", "14", "(/ 7 2)", "~", "(% 7 2)", "1", "(< 7 8)", "?",
            "(= 7 7)", "?", "(c 7 2)", "(7 . 2)", "(h '(7 2))", "7", "(t '(7 2))", "(2)", "(n '())", "?", "(p '(7))", "?",
            "(q 'a 'a)", "?"};
        for (int i = 0; i < texts.length; i += 2) {
            checks.due(texts[i], new Session().value(texts[i]), texts[i + 1]);
        }
    }

    private static void latestValue(Checks checks) {
        checks.sentence("the latest VALUE is FALSE");
        Session s = new Session();
        checks.due("written", s.written(), "!");
        checks.due("length", s.letter(-1), 1);
        checks.due("letter 0", s.letter(0), (int) '!');
        checks.due("letter 1", s.letter(1), "missing");
        checks.due("number 0", s.number(0), "missing");
        s.run("(/ 1 0)");
        checks.due("after a run that threw", s.written(), "!");
    }

    private static void nothingElse(Checks checks) {
        checks.sentence("SchemeSystem()");
        Session s = new Session();
        checks.due("state", s.state(), "-1 -1 0 13 0 0 0 0 0 -1 !");
        checks.due("collect", s.collect(), 0);
        checks.due("run", s.run(), "missing");
        checks.due("state then", s.state(), "-1 -1 0 13 0 0 0 0 0 -1 !");
        checks.due("compile", s.compile(), "bad");
        s.run("(D a '(1))");
        checks.due("another object", new Session().state(), "-1 -1 0 13 0 0 0 0 0 -1 !");
    }
}
