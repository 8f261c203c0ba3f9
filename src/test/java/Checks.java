/** Counts the answers of one test and prints the wrong ones. */
final class Checks {
    private int right = 0;
    private int wrong = 0;

    void due(String what, Object got, Object due) {
        if (String.valueOf(got).equals(String.valueOf(due))) {
            right++;
        } else {
            wrong++;
            System.out.println(what + " answered " + got + ", due is " + due);
        }
    }

    /** Ends the test: exit code 1 if an answer was wrong or none was looked at. */
    void end() {
        System.out.println(right + " answers as due, " + wrong + " not");
        if (wrong > 0 || right == 0) {
            System.exit(1);
        }
    }
}
