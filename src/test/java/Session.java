import java.util.NoSuchElementException;

/** A Scheme in use, its answers as texts: an exception is answered by its short name in the document. */
final class Session {
    /** The face of the class, so that the model can be asked in its place. */
    interface Scheme {
        int type(long eight);

        int compile();

        int run();

        int letter(int i);

        double number(int i);

        int collect();

        int count(int what);
    }

    private interface Call {
        Object answer();
    }

    /** The document promises nothing about an object after so many calls. */
    private static final int CALLS_MOST = 512;

    private final Scheme scheme;
    private int callsLeft;

    /** A new SchemeSystem, the class under test. */
    Session() {
        this(new UnderTest(), CALLS_MOST);
    }

    private Session(Scheme scheme, int calls) {
        this.scheme = scheme;
        callsLeft = calls;
    }

    /** A new SchemeSystem whose state is asked for after each call, so often that the questions can't be counted. */
    static Session askedOften() {
        return new Session(new UnderTest(), Integer.MAX_VALUE);
    }

    static Session ofModel(Scheme model) {
        return new Session(model, Integer.MAX_VALUE);
    }

    /** A new SchemeSystem with so many OBJECTS there (1 .. 120), all of them held by the GLOBALS f and a. */
    static Session with(int objects) {
        Session s = new Session();
        s.run("(D f (L (k l) (I (= k 0) l (f (- k 1) (c k l)))))");
        s.run("(D a (f " + (objects - 1) + " '()))");
        return s;
    }

    private String answerOf(Call call) {
        if (callsLeft == 0) {
            throw new AssertionError("a test makes more calls than the document promises to answer");
        }
        callsLeft--;
        try {
            return String.valueOf(call.answer());
        } catch (IllegalArgumentException e) {
            return "bad";
        } catch (NoSuchElementException e) {
            return "missing";
        } catch (IllegalStateException e) {
            return "too much";
        } catch (UnsupportedOperationException e) {
            return "unfit";
        } catch (ArithmeticException e) {
            return "arithmetic";
        }
    }

    /** The bytes of up to eight characters as type takes them. */
    static long packed(String text) {
        long all = 0;
        for (int i = 0; i < text.length(); i++) {
            all = all << 8 | text.charAt(i);
        }
        return all;
    }

    String type(String text) {
        String answer = count(1);
        for (int i = 0; i < text.length(); i += 8) {
            String part = text.substring(i, Math.min(i + 8, text.length()));
            answer = answerOf(() -> scheme.type(packed(part)));
        }
        return answer;
    }

    /** Types what an earlier call of packed, or anything else, made. */
    String typeNumber(long eight) {
        return answerOf(() -> scheme.type(eight));
    }

    String compile() {
        return answerOf(() -> scheme.compile());
    }

    String compile(String text) {
        if (text.length() > 64) {
            throw new AssertionError("a test's text is too long: " + text);
        }
        type(text);
        return compile();
    }

    String run() {
        return answerOf(() -> scheme.run());
    }

    String run(String text) {
        String answer = compile(text);
        return answer.equals("bad") ? answer : run();
    }

    String letter(int i) {
        return answerOf(() -> scheme.letter(i));
    }

    String number(int i) {
        return answerOf(() -> scheme.number(i));
    }

    String collect() {
        return answerOf(() -> scheme.collect());
    }

    String count(int what) {
        return answerOf(() -> scheme.count(what));
    }

    /** The latest VALUE as it is written. */
    String written() {
        StringBuilder all = new StringBuilder();
        int length = Integer.parseInt(letter(-1));
        for (int i = 0; i < length; i++) {
            all.append((char) Integer.parseInt(letter(i)));
        }
        return all.toString();
    }

    /** The VALUE of a text, or why there is none. */
    String value(String text) {
        String answer = run(text);
        return answer.isEmpty() || Character.isDigit(answer.charAt(0)) ? written() : answer;
    }

    /** All that can be asked without a change. */
    String state() {
        StringBuilder all = new StringBuilder();
        for (int i = -1; i < 9; i++) {
            all.append(count(i)).append(' ');
        }
        all.append(written());
        for (int i = 0; !number(i).equals("missing"); i++) {
            all.append(' ').append(number(i));
        }
        return all.toString();
    }

    /** The STEPS and the greatest DEPTH of the latest run. */
    String work() {
        return count(5) + " " + count(6);
    }

    private static final class UnderTest implements Scheme {
        private final SchemeSystem system = new SchemeSystem();

        @Override
        public int type(long eight) {
            return system.type(eight);
        }

        @Override
        public int compile() {
            return system.compile();
        }

        @Override
        public int run() {
            return system.run();
        }

        @Override
        public int letter(int i) {
            return system.letter(i);
        }

        @Override
        public double number(int i) {
            return system.number(i);
        }

        @Override
        public int collect() {
            return system.collect();
        }

        @Override
        public int count(int what) {
            return system.count(what);
        }
    }
}
