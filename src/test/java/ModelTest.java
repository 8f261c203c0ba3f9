import java.util.ArrayList;
import java.util.Arrays;
import java.util.List;
import java.util.Random;
import java.util.function.Function;

/** All promises together: long runs of calls made by chance, always the same ones, answered as the model does. */
public final class ModelTest {
    private record Call(String what, Function<Session, String> asked) {
    }

    private static final int RUNS = 2000;
    private static final int CALLS = 512;
    private static final List<String> THROWN = List.of("missing", "too much", "unfit", "arithmetic");
    private static final String[] USEFUL = {
        "(D x(+ 1 1))", "(D y 2.5)", "(D b '(1 2.5 a))", "(D f(L(x)(I(< x 1)1(* x(f(- x 1))))))",
        "(D g(L(x y)(I(= x 0)y(g(- x 1)(c x y)))))", "(D k(L(x)(L(y)(S x(+ x y)))))", "(D m(k 10))", "(m 3)", "(m 2.5)",
        "(f 5)", "(f 38)", "(f 39)", "(f 40)", "(g 30 '())", "(D a(g 25 '()))", "(D b(g 60 a))", "(D a 1)", "(D b 2)",
        "(g 80 'x)", "(g 3 1.5)", "(N l((k 5)(s 0))(I(= k 0)s(l(- k 1)(+ s k))))", "(N w((i 0))(w(+ i 1)))",
        "(N w((i 0))(+ 1(w(+ i 1))))", "(D e(L(x)(I(= x 0)0(+ 1(e(- x 1))))))", "(e 38)", "(e 39)", "(+ 0(e 38))",
        "(+ 0(e 39))", "(D u(B((x '(1 2)))(B((y x)(x 3))(L()(c x(c y '(4)))))))", "(u)", "(D u(X(S a '(9))(L()'(7 8))))",
        "(D r(L(n l)(I(= n 0)l(r(- n 1)(c l l)))))", "(r 6 'a)", "(r 50 1.5)", "(r 9 '(1.5))",
        "(D j(N a()(N b()(N i()(L()(c a b))))))", "(j)", "(D o(B((x o))(L(y)(I y x 1))))", "(D o 1)", "(o ?)",
        "(D d(L(x)(d x)))", "(d 1)", "(D s(L(x)(L()x)))", "(D y(s(s(s(c 1 2)))))", "(((y)))", "(D y(L()(c(L()y)y)))", "(y)",
        "(D v(L(l)(I(n l)0(+(h l)(v(t l))))))", "(v a)", "(v '(1 2 3.5))", "(D z 'z)", "(z)", "(S z(L(z)z))", "(z z)",
        "(/ x(- y y))", "(% x(- x x))", "(S x(* x 99999.5))", "(S x(* x x))", "(S x(- 0 x))", "(S y(/ y(- 0 7)))",
        "(S y(* y y))", "(/ x 0)", "(% 5 x)", "(+ x y)", "(c x(c y b))"};

    private final Random random;
    private final Session real = Session.askedOften();
    private final Session model = Session.ofModel(new Model());
    private final List<String> calls = new ArrayList<>();
    private final StringBuilder text = new StringBuilder();
    private String toType = "";
    private int texts = 0;

    private ModelTest(long seed) {
        random = new Random(seed);
    }

    /** Takes how many runs there are, and the first one's seed. */
    public static void main(String[] args) {
        int runs = args.length > 0 ? Integer.parseInt(args[0]) : RUNS;
        long first = args.length > 1 ? Long.parseLong(args[1]) : 1;
        int wrong = 0;
        int[] kinds = new int[THROWN.size() + 2];
        for (int i = 0; i < runs && wrong < 5; i++) {
            wrong += new ModelTest(first + i).answersAgree(kinds) ? 0 : 1;
        }
        System.out.println(runs + " runs of calls; run answered, threw " + THROWN + ", compile threw: "
            + Arrays.toString(kinds));
        for (int kind : kinds) {
            wrong += kind == 0 ? 1 : 0;
        }
        System.exit(wrong == 0 ? 0 : 1);
    }

    private boolean answersAgree(int[] kinds) {
        for (int i = 0; i < CALLS; i++) {
            Call call = nextCall();
            String got = call.asked().apply(real) + "; " + real.state();
            String answer = call.asked().apply(model);
            String due = answer + "; " + model.state();
            calls.add(call.what() + " -> " + answer);
            note(call, answer, kinds);
            if (!got.equals(due)) {
                System.out.println(String.join("\n", calls));
                System.out.println("answered " + got + "\ndue is   " + due);
                return false;
            }
        }
        return true;
    }

    /** Counts what came of the calls, so that a test that tests little can be seen. */
    private static void note(Call call, String answer, int[] kinds) {
        if (call.what().equals("run")) {
            kinds[THROWN.indexOf(answer) + 1]++;
        } else if (answer.equals("bad") && call.what().equals("compile")) {
            kinds[THROWN.size() + 1]++;
        }
    }

    private Call nextCall() {
        boolean typed = !real.count(1).equals("0");
        boolean atHand = real.count(7).equals("1");
        int dice = random.nextInt(100);
        if (toType.isEmpty() && !typed && dice < 25) {
            toType = nextText();
        }
        if (!toType.isEmpty()) {
            return typing();
        }
        if (dice < 45 && (typed || dice == 44)) {
            return new Call("compile", Session::compile);
        }
        if (dice < 65 && (atHand || dice == 64)) {
            return new Call("run", Session::run);
        }
        return dice < 98 ? nextQuestion() : typingAnything();
    }

    private Call typing() {
        int size = Math.min(toType.length(), 1 + random.nextInt(8));
        String part = toType.substring(0, size);
        toType = toType.substring(size);
        return new Call("type " + part, one -> one.typeNumber(Session.packed(part)));
    }

    private Call typingAnything() {
        long eight = random.nextLong() & 0x7F7F7F7F7F7F7F7FL & (random.nextBoolean() ? -1L : 0xFF00FF0000L);
        return new Call("type number " + eight, one -> one.typeNumber(eight));
    }

    private Call nextQuestion() {
        int dice = random.nextInt(4);
        int near = random.nextInt(12) - 2;
        int at = random.nextInt(3) == 0 ? random.nextInt(100) : near;
        if (dice == 0) {
            return new Call("letter " + at, one -> one.letter(at));
        }
        if (dice == 1) {
            return new Call("number " + at, one -> one.number(at));
        }
        return dice == 2 ? new Call("collect", Session::collect) : new Call("count " + near, one -> one.count(near));
    }

    // Texts by chance, most of them right.

    private String nextText() {
        texts++;
        if (texts < 8) {
            return USEFUL[texts - 1];
        }
        int dice = random.nextInt(20);
        if (dice < 8) {
            return USEFUL[random.nextInt(USEFUL.length)];
        }
        text.setLength(0);
        if (dice == 8) {
            garbage();
        } else if (dice < 12) {
            text.append("(D ").append(variable());
            expression(3);
            text.append(')');
        } else {
            expression(4);
        }
        if (random.nextInt(10) == 0) {
            damage();
        }
        String all = text.toString();
        return all.length() > 64 ? all.substring(0, random.nextInt(4) == 0 ? 64 : 0) : all;
    }

    private void garbage() {
        String letters = "((((''1234567890..  ab+-?!)))QLISBACONXDK#>";
        int length = random.nextInt(20);
        for (int i = 0; i < length; i++) {
            text.append(letters.charAt(random.nextInt(letters.length())));
        }
    }

    private void damage() {
        int at = random.nextInt(text.length() + 1);
        if (random.nextBoolean() && at < text.length()) {
            text.deleteCharAt(at);
        } else {
            text.insert(at, "()'1.aK #".charAt(random.nextInt(9)));
        }
    }

    private char variable() {
        String all = random.nextInt(6) == 0 ? "abcdefghijklmnopqrstuvwxyz+-*/%<=" : "abcfgkmxy";
        return all.charAt(random.nextInt(all.length()));
    }

    private void atom() {
        int dice = random.nextInt(12);
        if (dice < 5) {
            text.append(variable());
        } else if (dice < 8) {
            separate();
            text.append(random.nextInt(random.nextBoolean() ? 4 : 100));
        } else if (dice == 8) {
            separate();
            text.append(random.nextInt(9)).append('.').append(random.nextInt(random.nextBoolean() ? 10 : 1000));
        } else {
            text.append(dice == 9 ? "?" : dice == 10 ? "!" : "'()");
        }
    }

    private void separate() {
        if (text.length() > 0 && Character.isDigit(text.charAt(text.length() - 1)) || random.nextInt(5) == 0) {
            text.append(' ');
        }
    }

    private void datum(int depth) {
        if (depth <= 0 || random.nextInt(3) == 0) {
            atom();
        } else if (random.nextInt(5) == 0) {
            text.append('\'');
            datum(depth - 1);
        } else {
            text.append('(');
            int size = random.nextInt(4);
            for (int i = 0; i < size; i++) {
                datum(depth - 1);
            }
            text.append(')');
        }
    }

    private void several(int least, int most, int depth) {
        int size = least + random.nextInt(most - least + 1);
        for (int i = 0; i < size; i++) {
            expression(depth - 1);
        }
    }

    private void bindings(int depth) {
        text.append('(');
        int size = random.nextInt(3);
        for (int i = 0; i < size; i++) {
            text.append('(').append("xyzf".charAt(random.nextInt(4)));
            expression(depth - 2);
            text.append(')');
        }
        text.append(')');
    }

    private void expression(int depth) {
        if (depth <= 0 || random.nextInt(6) == 0) {
            atom();
            return;
        }
        int dice = random.nextInt(22);
        if (dice == 0) {
            text.append('\'');
            datum(depth);
            return;
        }
        text.append('(');
        if (dice == 1) {
            text.append('I');
            several(3, 3, depth);
        } else if (dice == 2) {
            text.append('S').append(variable());
            expression(depth - 1);
        } else if (dice == 3) {
            text.append("L(").append("xyzf", 0, random.nextInt(4)).append(')');
            expression(depth - 1);
        } else if (dice == 4) {
            text.append('B');
            bindings(depth);
            expression(depth - 1);
        } else if (dice == 5 || dice == 6) {
            text.append(dice == 5 ? 'A' : 'O');
            several(0, 4, depth);
        } else if (dice == 7) {
            cases(depth);
        } else if (dice == 8) {
            text.append('N').append("fgx".charAt(random.nextInt(3)));
            bindings(depth);
            expression(depth - 1);
        } else if (dice == 9) {
            text.append('X');
            several(1, 3, depth);
        } else if (dice < 17) {
            text.append("+-*/%<=cq".charAt(random.nextInt(9)));
            several(2, 2, depth);
        } else if (dice < 19) {
            text.append("htnp".charAt(random.nextInt(4)));
            several(1, 1, depth);
        } else {
            several(1, 3, depth);
        }
        text.append(')');
    }

    private void cases(int depth) {
        text.append('C');
        int size = random.nextInt(3);
        for (int i = 0; i < size; i++) {
            text.append('(');
            several(2, 2, depth - 1);
            text.append(')');
        }
    }
}
