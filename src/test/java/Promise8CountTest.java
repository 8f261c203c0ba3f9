/** Promise 8: count. */
public final class Promise8CountTest {
    public static void main(String[] args) {
        Checks checks = new Checks();
        Session s = new Session();
        checks.due("0 at first", s.count(0), -1);
        s.compile("(a))");
        checks.due("0", s.count(0), 3);
        s.compile("(a)");
        checks.due("0 of the latest that couldn't be read", s.count(0), 3);
        s.compile("");
        checks.due("0 of the empty text", s.count(0), 0);

        s.type("(D a (c 1 ");
        checks.due("1", s.count(1), 10);
        s.type("2))");
        checks.due("1", s.count(1), 13);
        s.compile();
        checks.due("1 when compiled", s.count(1), 0);
        checks.due("2 before it runs", s.count(2), 13);
        s.run();
        checks.due("2", s.count(2), 14);
        s.run();
        checks.due("2 again", s.count(2), 14);
        s.run("(D + 1)");
        checks.due("2 of one that was there", s.count(2), 14);

        checks.due("3", s.count(3), 2);
        checks.due("4", s.count(4), 2);
        s.collect();
        checks.due("3 when one went", s.count(3), 1);
        checks.due("4 when one went", s.count(4), 2);

        checks.due("5 and 6 of D", s.work(), "0 1");
        s.run("(c (n 1) (p 1))");
        checks.due("5 and 6", s.work(), "3 1");
        s.run("(c (n 1) (p))");
        checks.due("5 and 6 of one that threw", s.work(), "2 1");
        s.compile("(+ (* ((L (x) x) 1) 2) 3)");
        checks.due("5 and 6 of the run before", s.work(), "2 1");
        s.run();
        checks.due("5 and 6 of the latest run", s.work(), "3 2");

        checks.due("7", s.count(7), 1);
        s.compile("K");
        checks.due("7 without one", s.count(7), 0);
        for (int what : new int[] {-1, 8, 9, 64, Integer.MIN_VALUE, Integer.MAX_VALUE}) {
            checks.due("count " + what, s.count(what), -1);
        }
        checks.end();
    }
}
