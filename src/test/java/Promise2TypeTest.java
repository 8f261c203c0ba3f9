/** Promise 2: type. */
public final class Promise2TypeTest {
    public static void main(String[] args) {
        Checks checks = new Checks();
        zerosAreLeftOut(checks);
        badBytes(checks);
        tooMuch(checks);
        checks.end();
    }

    private static void zerosAreLeftOut(Checks checks) {
        Session s = new Session();
        checks.due("type nothing", s.typeNumber(0), 0);
        checks.due("one", s.typeNumber('('), 1);
        checks.due("highest first", s.typeNumber(0x2B00200031002000L), 5);
        checks.due("zeros behind", s.typeNumber(0x3229000000000000L), 7);
        checks.due("length", s.count(1), 7);
        checks.due("(+ 1 2)", s.compile() + s.run() + s.written(), "413");
        checks.due("empty then", s.count(1), 0);
    }

    private static void badBytes(Checks checks) {
        Session s = new Session();
        s.type("ab");
        checks.due("31", s.typeNumber(31), "bad");
        checks.due("127", s.typeNumber(127L << 56), "bad");
        checks.due("128", s.typeNumber(0x6161618061616161L), "bad");
        checks.due("255", s.typeNumber(-1), "bad");
        checks.due("1", s.typeNumber(1), "bad");
        checks.due("none of them added", s.count(1), 2);
        checks.due("32 and 126", s.typeNumber(0x207EL), 4);
    }

    private static void tooMuch(Checks checks) {
        Session s = new Session();
        checks.due("60", s.type("1234567 ".repeat(7) + "    "), 60);
        checks.due("five more", s.typeNumber(Session.packed("     ")), "too much");
        checks.due("still 60", s.count(1), 60);
        checks.due("four more", s.typeNumber(Session.packed("    ")), 64);
        checks.due("one more", s.typeNumber(' '), "too much");
        checks.due("none more", s.typeNumber(0), 64);
        checks.due("bad comes before too much", s.typeNumber(0x2020202020202001L), "bad");
        checks.due("still 64", s.count(1), 64);
        checks.due("as it was typed", s.compile() + s.count(0), "bad8");
    }
}
