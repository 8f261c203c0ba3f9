import java.util.NoSuchElementException;

/** A SchemeSystem under test, its answers as texts: an exception is answered by its short name. */
final class Session {
    final SchemeSystem system = new SchemeSystem();

    interface Call {
        Object answer();
    }

    static String answerOf(Call call) {
        try {
            return String.valueOf(call.answer());
        } catch (IllegalArgumentException e) {
            return "bad";
        } catch (NoSuchElementException e) {
            return "missing";
        } catch (IllegalStateException e) {
            return "too much";
        } catch (UnsupportedOperationException e) {
            return "unfit";
        } catch (ArithmeticException e) {
            return "arithmetic";
        }
    }

    /** The bytes of up to eight characters as type takes them. */
    static long packed(String text) {
        long all = 0;
        for (int i = 0; i < text.length(); i++) {
            all = all << 8 | text.charAt(i);
        }
        return all;
    }

    String type(String text) {
        String answer = count(1);
        for (int i = 0; i < text.length(); i += 8) {
            String part = text.substring(i, Math.min(i + 8, text.length()));
            answer = answerOf(() -> system.type(packed(part)));
        }
        return answer;
    }

    String typeNumber(long eight) {
        return answerOf(() -> system.type(eight));
    }

    String compile() {
        return answerOf(() -> system.compile());
    }

    String compile(String text) {
        type(text);
        return compile();
    }

    String run() {
        return answerOf(() -> system.run());
    }

    String run(String text) {
        String answer = compile(text);
        return answer.equals("bad") ? answer : run();
    }

    String letter(int i) {
        return answerOf(() -> system.letter(i));
    }

    String number(int i) {
        return answerOf(() -> system.number(i));
    }

    String collect() {
        return answerOf(() -> system.collect());
    }

    String count(int what) {
        return answerOf(() -> system.count(what));
    }

    /** The latest VALUE as it is written. */
    String written() {
        StringBuilder all = new StringBuilder();
        int length = system.letter(-1);
        for (int i = 0; i < length; i++) {
            all.append((char) system.letter(i));
        }
        return all.toString();
    }

    /** The VALUE of a text, or why there is none. */
    String value(String text) {
        String answer = run(text);
        return answer.isEmpty() || Character.isDigit(answer.charAt(0)) ? written() : answer;
    }

    /** The STEPS and the greatest DEPTH of the latest run. */
    String work() {
        return count(5) + " " + count(6);
    }
}
