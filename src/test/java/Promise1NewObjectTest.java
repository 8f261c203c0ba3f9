/** Promise 1: the GLOBALS of a new object, and its latest VALUE. */
public final class Promise1NewObjectTest {
    public static void main(String[] args) {
        Checks checks = new Checks();
        Session fresh = new Session();
        checks.due("latest VALUE", fresh.written(), "!");
        checks.due("length of the latest VALUE", fresh.letter(-1), 1);
        checks.due("letter 1", fresh.letter(1), "missing");
        checks.due("number 0", fresh.number(0), "missing");
        int[] due = {-1, 0, 13, 0, 0, 0, 0, 0};
        for (int i = 0; i < due.length; i++) {
            checks.due("count " + i, fresh.count(i), due[i]);
        }
        checks.due("run", fresh.run(), "missing");
        checks.due("collect", fresh.collect(), 0);

        for (char name : "+-*/%<=chtnpq".toCharArray()) {
            checks.due("GLOBAL " + name, new Session().value("" + name), "#");
        }
        for (char name : "abdefgijklmorsuvwxyz".toCharArray()) {
            checks.due("no GLOBAL " + name, new Session().value("" + name), "missing");
        }
        Session other = new Session();
        other.run("(D a 1)");
        checks.due("a GLOBAL of another object", fresh.value("a"), "missing");
        checks.end();
    }
}
