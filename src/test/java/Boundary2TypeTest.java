/** Promise 2, type: each sentence that names a boundary. */
public final class Boundary2TypeTest {
    public static void main(String[] args) {
        Checks checks = new Checks();
        eightBytes(checks);
        outOfRange(checks);
        tooLong(checks);
        noneIsAdded(checks);
        whichComesFirst(checks);
        fullTextIsRead(checks);
        checks.end();
    }

    private static void eightBytes(Checks checks) {
        checks.sentence("Adds the eight bytes of the number, highest first, those that are 0 left out");
        Session s = new Session();
        checks.due("no byte", s.typeNumber(0), 0);
        checks.due("all eight", s.typeNumber(Session.packed("(- 9 4 )")), 8);
        checks.due("highest first", s.compile() + s.run() + s.written(), "415");
        for (int shift = 0; shift < 64; shift += 8) {
            checks.due("one byte, " + shift + " up", s.typeNumber((long) '5' << shift), 1);
            checks.due("it alone", s.compile() + s.run() + s.written(), "105");
        }
        checks.due("zeros between", s.typeNumber(0x2800002D00390020L) + s.typeNumber(0x3400000000000029L), "46");
        checks.due("what they say", s.compile() + s.run() + s.written(), "415");
    }

    private static void outOfRange(Checks checks) {
        checks.sentence("One not 32 .. 126: bad");
        for (int one = 1; one <= 255; one++) {
            Session s = new Session();
            boolean fits = one >= 32 && one <= 126;
            for (int shift = 0; shift < 64; shift += 8) {
                checks.due(one + " alone, " + shift + " up", s.typeNumber((long) one << shift), fits ? 1 : "bad");
                s.compile();
                long among = Session.packed("aaaaaaaa") & ~(255L << shift) | (long) one << shift;
                checks.due(one + " among others, " + shift + " up", s.typeNumber(among), fits ? 8 : "bad");
                s.compile();
            }
        }
        checks.due("the least number", new Session().typeNumber(Long.MIN_VALUE), "bad");
        checks.due("the greatest number", new Session().typeNumber(Long.MAX_VALUE), "bad");
        checks.due("-1", new Session().typeNumber(-1), "bad");
    }

    private static Session typed(int length) {
        Session s = new Session();
        s.type("a".repeat(length));
        return s;
    }

    private static void tooLong(Checks checks) {
        checks.sentence("more than 64 in all: TOO MUCH");
        for (int more = 1; more <= 8; more++) {
            long eight = Session.packed("a".repeat(more));
            checks.due(more + " up to 64", typed(64 - more).typeNumber(eight), 64);
            checks.due(more + " up to 65", typed(65 - more).typeNumber(eight), "too much");
            checks.due(more + " when it's full", typed(64).typeNumber(eight), "too much");
        }
        checks.due("none when it's full", typed(64).typeNumber(0), 64);
        checks.due("zeros aren't counted", typed(63).typeNumber(0x0000000061000000L), 64);
        checks.due("zeros aren't counted", typed(63).typeNumber(0x6100000000000061L), "too much");
    }

    private static void noneIsAdded(Checks checks) {
        checks.sentence("then none is added");
        Session s = new Session();
        s.type("(+ 1 ");
        String before = s.state();
        checks.due("the last one bad", s.typeNumber(Session.packed("2222222\t")), "bad");
        checks.due("the first one bad", s.typeNumber(Session.packed("\t2222222")), "bad");
        checks.due("state", s.state(), before);
        s.type("2)");
        checks.due("goes on as it was", s.compile() + s.run() + s.written(), "413");

        s.type("(+ 1 2 )" + " ".repeat(53));
        before = s.state();
        checks.due("61 and 4", s.typeNumber(Session.packed("3456")), "too much");
        checks.due("state", s.state(), before);
        checks.due("61 and 3", s.typeNumber(Session.packed("   ")), 64);
        checks.due("goes on as it was", s.compile() + s.run() + s.written(), "413");
    }

    private static void whichComesFirst(Checks checks) {
        checks.sentence("Of several that fit, a call throws the one that stands first in its heading");
        checks.due("too long and the last one bad", typed(64).typeNumber(Session.packed("aaaaaaa\t")), "bad");
        checks.due("too long and the first one bad", typed(64).typeNumber(Session.packed("\taaaaaaa")), "bad");
        checks.due("only bad", typed(64).typeNumber('\t'), "bad");
    }

    private static void fullTextIsRead(Checks checks) {
        checks.sentence("TEXT, at most 64 characters");
        checks.due("64 letters", new Session().compile("(A" + "a".repeat(61) + ")"), 241);
        Session s = new Session();
        checks.due("the last one counts", s.compile(" ".repeat(63) + ")") + s.count(0), "bad63");
        checks.due("empty again", s.count(1), 0);
        checks.due("64 once more", s.type("5" + " ".repeat(63)) + " " + s.compile(), "64 1");
        checks.due("a shorter one behind it", s.compile("7") + s.run() + s.written(), "107");
    }
}
