/** Counts the answers of one test and prints the wrong ones. */
final class Checks {
    private int right = 0;
    private int wrong = 0;
    private String sentence = "";
    private int answersBefore = 0;

    /** The answers from here on belong to these words of the document: a wrong one is told with them. */
    void sentence(String words) {
        endSentence();
        sentence = words;
        answersBefore = right + wrong;
    }

    void due(String what, Object got, Object due) {
        if (String.valueOf(got).equals(String.valueOf(due))) {
            right++;
        } else {
            wrong++;
            String words = sentence.isEmpty() ? "" : "\"" + sentence + "\": ";
            System.out.println(words + what + " answered " + got + ", due is " + due);
        }
    }

    private void endSentence() {
        if (!sentence.isEmpty() && answersBefore == right + wrong) {
            wrong++;
            System.out.println("\"" + sentence + "\": nothing was looked at");
        }
    }

    /** Ends the test: exit code 1 if an answer was wrong or none was looked at. */
    void end() {
        endSentence();
        System.out.println(right + " answers as due, " + wrong + " not");
        if (wrong > 0 || right == 0) {
            System.exit(1);
        }
    }
}
