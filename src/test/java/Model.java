import java.util.ArrayList;
import java.util.Collections;
import java.util.HashMap;
import java.util.IdentityHashMap;
import java.util.List;
import java.util.Map;
import java.util.NoSuchElementException;
import java.util.Set;
import java.util.regex.Matcher;
import java.util.regex.Pattern;

/**
 * The document once more, written as plainly as can be and in another way than the program: data are Java lists,
 * forms are written out as data, and running is recursion over them.
 */
final class Model implements Session.Scheme {
    record Name(char letter) {
    }

    private static final class Pair {
        Object first;
        Object rest;
    }

    private static final class Procedure {
        List<?> lambda;
        Scope scope;
    }

    private static final class Scope {
        final Map<Name, Object> values = new HashMap<>();
        Scope outer;
    }

    private static final Object EMPTY = new Object();
    private static final Pattern TOKEN = Pattern.compile(" *(\\d+\\.\\d+|\\d+|[?!a-zA-Z+\\-*/%<=()'])");

    private String text = "";
    private int place = -1;
    private Object atHand;
    private Object latest = false;
    private int steps;
    private int greatest;
    private int made;
    private final Map<Name, Object> globals = new HashMap<>();
    private Map<Object, Object> quotes = new IdentityHashMap<>();
    private final Set<Object> there = Collections.newSetFromMap(new IdentityHashMap<>());

    Model() {
        for (char one : "+-*/%<=chtnpq".toCharArray()) {
            globals.put(new Name(one), String.valueOf(one));
        }
    }

    @Override
    public int type(long eight) {
        StringBuilder more = new StringBuilder();
        for (int i = 7; i >= 0; i--) {
            int one = (int) (eight >> 8 * i & 255);
            if (one != 0) {
                more.append((char) one);
            }
        }
        if (more.chars().anyMatch(one -> one < 32 || one > 126)) {
            throw new IllegalArgumentException();
        }
        if (text.length() + more.length() > 64) {
            throw new IllegalStateException();
        }
        text += more;
        return text.length();
    }

    // Reading: a text is readable or not; THE PLACE comes from asking that of what could follow each beginning.

    private static List<String> tokens(String text) {
        List<String> all = new ArrayList<>();
        Matcher matcher = TOKEN.matcher(text);
        int end = 0;
        while (matcher.find() && matcher.start() == end) {
            String token = matcher.group(1);
            int point = token.indexOf('.');
            int digits = Character.isDigit(token.charAt(0)) ? token.length() - (point < 0 ? 0 : 1) : 0;
            if (digits > 9 || point >= 0 && token.length() - point - 1 > 3) {
                return null;
            }
            all.add(token);
            end = matcher.end();
        }
        return text.substring(end).isBlank() ? all : null;
    }

    /** The DATUM of a text, or null. */
    private static Object read(String text) {
        List<String> tokens = tokens(text);
        if (tokens == null) {
            return null;
        }
        int[] at = {0};
        Object datum = read(tokens, at, 0);
        return at[0] == tokens.size() ? datum : null;
    }

    private static Object read(List<String> tokens, int[] at, int depth) {
        if (at[0] >= tokens.size() || depth > 8) {
            return null;
        }
        String token = tokens.get(at[0]++);
        char letter = token.charAt(0);
        if (Character.isDigit(letter)) {
            int point = token.indexOf('.');
            int whole = Integer.parseInt(token.replace(".", ""));
            return point < 0 ? (Object) whole : whole / Math.pow(10.0, token.length() - point - 1);
        }
        if (letter == '\'') {
            Object datum = depth == 8 ? null : read(tokens, at, depth + 1);
            return datum == null ? null : List.of(new Name('Q'), datum);
        }
        if (letter == '(') {
            List<Object> all = new ArrayList<>();
            while (depth < 8 && at[0] < tokens.size()) {
                if (tokens.get(at[0]).equals(")")) {
                    at[0]++;
                    return all;
                }
                Object datum = read(tokens, at, depth + 1);
                if (datum == null) {
                    return null;
                }
                all.add(datum);
            }
            return null;
        }
        return letter == '?' ? (Object) true : letter == '!' ? (Object) false : letter == ')' ? null : new Name(letter);
    }

    private static boolean couldBegin(String text) {
        for (String more : new String[] {"", "1"}) {
            for (int brackets = 0; brackets <= 8; brackets++) {
                if (read(text + more + ")".repeat(brackets)) != null) {
                    return true;
                }
            }
        }
        return false;
    }

    private static int placeIn(String text) {
        int at = 0;
        while (at < text.length() && couldBegin(text.substring(0, at + 1))) {
            at++;
        }
        return at;
    }

    // Compiling: forms are checked and written out as the document says; what is left is Q, I, S, D, L, X and CALLS.

    @Override
    public int compile() {
        String whole = text;
        text = "";
        atHand = null;
        Object datum = read(whole);
        if (datum == null) {
            place = placeIn(whole);
            throw new IllegalArgumentException();
        }
        Object core = isForm(datum, 'D') ? definition((List<?>) datum) : expand(datum);
        Map<Object, Object> mine = new IdentityHashMap<>();
        int needed = pairsIn(core);
        if (there.size() + needed > 120) {
            throw new IllegalArgumentException();
        }
        makeQuotes(core, mine);
        quotes.putAll(mine);
        atHand = core;
        return instructions(core);
    }

    private static boolean isForm(Object datum, char name) {
        return datum instanceof List<?> list && !list.isEmpty() && list.get(0).equals(new Name(name));
    }

    private static void need(boolean right) {
        if (!right) {
            throw new IllegalArgumentException();
        }
    }

    private static boolean isVariable(Object datum) {
        return datum instanceof Name name && !Character.isUpperCase(name.letter());
    }

    private static List<Object> form(Object... parts) {
        return new ArrayList<>(List.of(parts));
    }

    private static Object definition(List<?> list) {
        need(list.size() == 3 && isVariable(list.get(1)));
        return form(list.get(0), list.get(1), expand(list.get(2)));
    }

    private static Object expand(Object datum) {
        if (!(datum instanceof List<?> list)) {
            need(!(datum instanceof Name) || isVariable(datum));
            return datum;
        }
        need(!list.isEmpty());
        if (!(list.get(0) instanceof Name head) || isVariable(head)) {
            List<Object> all = new ArrayList<>();
            for (Object one : list) {
                all.add(expand(one));
            }
            return all;
        }
        List<?> rest = list.subList(1, list.size());
        switch (head.letter()) {
            case 'Q':
                need(rest.size() == 1);
                return form(head, rest.get(0));
            case 'I':
                need(rest.size() == 3);
                return form(head, expand(rest.get(0)), expand(rest.get(1)), expand(rest.get(2)));
            case 'S':
                need(rest.size() == 2 && isVariable(rest.get(0)));
                return form(head, rest.get(0), expand(rest.get(1)));
            case 'L':
                need(rest.size() == 2 && rest.get(0) instanceof List<?>);
                List<?> names = (List<?>) rest.get(0);
                need(names.size() <= 6 && names.stream().allMatch(Model::isVariable));
                need(names.stream().distinct().count() == names.size());
                return form(head, names, expand(rest.get(1)));
            case 'X':
                need(!rest.isEmpty());
                List<Object> all = form(head);
                rest.forEach(one -> all.add(expand(one)));
                return all;
            case 'A':
                return rest.isEmpty() ? true : rest.size() == 1 ? expand(rest.get(0))
                    : expand(form(new Name('I'), rest.get(0), again(head, rest), false));
            case 'O':
                return rest.isEmpty() ? false : rest.size() == 1 ? expand(rest.get(0))
                    : expand(form(new Name('I'), rest.get(0), true, again(head, rest)));
            case 'C':
                if (rest.isEmpty()) {
                    return false;
                }
                need(rest.get(0) instanceof List<?> && ((List<?>) rest.get(0)).size() == 2);
                List<?> clause = (List<?>) rest.get(0);
                return expand(form(new Name('I'), clause.get(0), clause.get(1), again(head, rest)));
            case 'B':
                need(rest.size() == 2);
                List<Object> call = form(form(new Name('L'), parts(rest.get(0), 0), rest.get(1)));
                call.addAll(parts(rest.get(0), 1));
                return expand(call);
            case 'N':
                need(rest.size() == 3);
                Object v = rest.get(0);
                List<Object> inner = form(v);
                inner.addAll(parts(rest.get(1), 1));
                Object work = form(new Name('L'), parts(rest.get(1), 0), rest.get(2));
                Object body = form(new Name('X'), form(new Name('S'), v, work), inner);
                return expand(form(form(new Name('L'), form(v), body), false));
            default:
                throw new IllegalArgumentException();
        }
    }

    private static List<Object> again(Name head, List<?> rest) {
        List<Object> all = form(head);
        all.addAll(rest.subList(1, rest.size()));
        return all;
    }

    private static List<Object> parts(Object bindings, int which) {
        need(bindings instanceof List<?>);
        List<Object> all = new ArrayList<>();
        for (Object one : (List<?>) bindings) {
            need(one instanceof List<?> && ((List<?>) one).size() == 2);
            all.add(((List<?>) one).get(which));
        }
        return all;
    }

    private static int instructions(Object core) {
        if (!(core instanceof List<?> list) || isForm(core, 'Q')) {
            return 1;
        }
        if (isForm(core, 'L')) {
            return instructions(list.get(2)) + 2;
        }
        if (isForm(core, 'S') || isForm(core, 'D')) {
            return instructions(list.get(2)) + 1;
        }
        boolean call = !isForm(core, 'I') && !isForm(core, 'X');
        int all = call ? 1 : isForm(core, 'I') ? 2 : list.size() - 2;
        for (Object one : call ? list : list.subList(1, list.size())) {
            all += instructions(one);
        }
        return all;
    }

    private static int pairsIn(Object core) {
        int all = 0;
        for (Object quote : quotesIn(core)) {
            all += dataIn(((List<?>) quote).get(1)) - 1;
        }
        return all;
    }

    private static int dataIn(Object datum) {
        int all = 1;
        if (datum instanceof List<?> list) {
            for (Object one : list) {
                all += dataIn(one);
            }
        }
        return all;
    }

    private static List<Object> quotesIn(Object core) {
        List<Object> all = new ArrayList<>();
        if (isForm(core, 'Q')) {
            all.add(core);
        } else if (core instanceof List<?> list) {
            for (Object one : isForm(core, 'L') ? list.subList(2, 3) : list) {
                all.addAll(quotesIn(one));
            }
        }
        return all;
    }

    private void makeQuotes(Object core, Map<Object, Object> mine) {
        for (Object quote : quotesIn(core)) {
            mine.put(quote, valueOf(((List<?>) quote).get(1)));
        }
    }

    private Object valueOf(Object datum) {
        if (!(datum instanceof List<?> list)) {
            return datum;
        }
        Object all = EMPTY;
        for (int i = list.size() - 1; i >= 0; i--) {
            all = pair(valueOf(list.get(i)), all);
        }
        return all;
    }

    private Object pair(Object first, Object rest) {
        Pair pair = new Pair();
        pair.first = first;
        pair.rest = rest;
        return come(pair);
    }

    private Object come(Object object) {
        if (there.size() == 120) {
            throw new IllegalStateException();
        }
        there.add(object);
        made++;
        return object;
    }

    // Running.

    @Override
    public int run() {
        if (atHand == null) {
            throw new NoSuchElementException();
        }
        steps = 0;
        greatest = 1;
        latest = value(atHand, null, 1, true);
        return steps;
    }

    private Object value(Object core, Scope scope, int depth, boolean tail) {
        if (core instanceof Name name) {
            return holder(name, scope).get(name);
        }
        if (!(core instanceof List<?> list)) {
            return core;
        }
        if (isForm(core, 'Q')) {
            return quotes.get(core);
        }
        if (isForm(core, 'I')) {
            boolean no = Boolean.FALSE.equals(value(list.get(1), scope, depth, false));
            return value(list.get(no ? 3 : 2), scope, depth, tail);
        }
        if (isForm(core, 'S')) {
            Object value = value(list.get(2), scope, depth, false);
            holder((Name) list.get(1), scope).put((Name) list.get(1), value);
            return value;
        }
        if (isForm(core, 'D')) {
            Object value = value(list.get(2), scope, depth, false);
            globals.put((Name) list.get(1), value);
            return value;
        }
        if (isForm(core, 'X')) {
            for (Object one : list.subList(1, list.size() - 1)) {
                value(one, scope, depth, false);
            }
            return value(list.get(list.size() - 1), scope, depth, tail);
        }
        if (isForm(core, 'L')) {
            Procedure procedure = new Procedure();
            procedure.lambda = list;
            procedure.scope = scope;
            return come(procedure);
        }
        List<Object> all = new ArrayList<>();
        for (Object one : list) {
            all.add(value(one, scope, depth, false));
        }
        return apply(all.get(0), all.subList(1, all.size()), tail ? depth : depth + 1);
    }

    private Map<Name, Object> holder(Name name, Scope scope) {
        for (Scope one = scope; one != null; one = one.outer) {
            if (one.values.containsKey(name)) {
                return one.values;
            }
        }
        if (!globals.containsKey(name)) {
            throw new NoSuchElementException();
        }
        return globals;
    }

    private Object apply(Object procedure, List<Object> arguments, int depth) {
        if (steps == 1000) {
            throw new IllegalStateException();
        }
        steps++;
        if (procedure instanceof String builtIn) {
            return apply(builtIn.charAt(0), arguments);
        }
        fit(procedure instanceof Procedure);
        Procedure mine = (Procedure) procedure;
        List<?> names = (List<?>) mine.lambda.get(1);
        fit(names.size() == arguments.size());
        if (depth > 40) {
            throw new IllegalStateException();
        }
        greatest = Math.max(greatest, depth);
        Scope scope = new Scope();
        scope.outer = mine.scope;
        for (int i = 0; i < names.size(); i++) {
            scope.values.put((Name) names.get(i), arguments.get(i));
        }
        return value(mine.lambda.get(2), scope, depth, true);
    }

    private static void fit(boolean fits) {
        if (!fits) {
            throw new UnsupportedOperationException();
        }
    }

    private Object apply(char builtIn, List<Object> arguments) {
        fit(arguments.size() == ("htnp".indexOf(builtIn) >= 0 ? 1 : 2));
        Object one = arguments.get(0);
        Object other = arguments.get(arguments.size() - 1);
        switch (builtIn) {
            case 'c':
                return pair(one, other);
            case 'h':
                fit(one instanceof Pair);
                return ((Pair) one).first;
            case 't':
                fit(one instanceof Pair);
                return ((Pair) one).rest;
            case 'n':
                return one == EMPTY;
            case 'p':
                return one instanceof Pair;
            case 'q':
                return one instanceof Double a && other instanceof Double b ? a.doubleValue() == b : one.equals(other);
            default:
                fit(one instanceof Number && other instanceof Number);
                return calculated(builtIn, (Number) one, (Number) other);
        }
    }

    private static Object calculated(char builtIn, Number one, Number other) {
        double a = one.doubleValue();
        double b = other.doubleValue();
        boolean whole = one instanceof Integer && other instanceof Integer;
        fit(whole || builtIn != '%');
        if (builtIn == '%' && b == 0 || builtIn == '/' && b == 0) {
            throw new ArithmeticException();
        }
        switch (builtIn) {
            case '<':
                return a < b;
            case '=':
                return a == b;
            case '%':
                return (int) ((long) one.intValue() % other.intValue());
            case '+':
                return whole ? (Object) (int) ((long) one.intValue() + other.intValue()) : limited(a + b);
            case '-':
                return whole ? (Object) (int) ((long) one.intValue() - other.intValue()) : limited(a - b);
            case '*':
                return whole ? (Object) (int) ((long) one.intValue() * other.intValue()) : limited(a * b);
            default:
                return limited(a / b);
        }
    }

    private static double limited(double real) {
        if (Math.abs(real) > 1e9) {
            throw new ArithmeticException();
        }
        return real;
    }

    // What is written, held and counted.

    private String written(List<Double> floats) {
        StringBuilder all = new StringBuilder();
        write(latest, all, floats);
        all.setLength(Math.min(80, all.length()));
        return all.toString();
    }

    private static void write(Object value, StringBuilder all, List<Double> floats) {
        if (all.length() >= 80) {
            return;
        }
        if (value instanceof Double real) {
            floats.add(real);
            all.append('~');
        } else if (value instanceof Boolean truth) {
            all.append(truth ? '?' : '!');
        } else if (value instanceof Name name) {
            all.append(name.letter());
        } else if (value instanceof Integer) {
            all.append(value);
        } else if (value == EMPTY) {
            all.append("()");
        } else if (value instanceof Pair pair) {
            all.append('(');
            write(pair.first, all, floats);
            Object rest = pair.rest;
            while (rest instanceof Pair next && all.length() < 80) {
                all.append(' ');
                write(next.first, all, floats);
                rest = next.rest;
            }
            if (rest != EMPTY && !(rest instanceof Pair)) {
                all.append(" . ");
                write(rest, all, floats);
            }
            all.append(')');
        } else {
            all.append('#');
        }
    }

    @Override
    public int letter(int i) {
        String all = written(new ArrayList<>());
        if (i < -1 || i >= all.length()) {
            throw new NoSuchElementException();
        }
        return i == -1 ? all.length() : all.charAt(i);
    }

    @Override
    public double number(int i) {
        List<Double> floats = new ArrayList<>();
        written(floats);
        if (i < 0 || i >= floats.size()) {
            throw new NoSuchElementException();
        }
        return floats.get(i);
    }

    @Override
    public int collect() {
        Set<Object> held = Collections.newSetFromMap(new IdentityHashMap<>());
        globals.values().forEach(one -> hold(one, held));
        hold(latest, held);
        if (atHand != null) {
            quotesIn(atHand).forEach(one -> hold(quotes.get(one), held));
        }
        int before = there.size();
        there.retainAll(held);
        return before - there.size();
    }

    private void hold(Object value, Set<Object> held) {
        if (value instanceof Pair pair && held.add(value)) {
            hold(pair.first, held);
            hold(pair.rest, held);
        } else if (value instanceof Procedure procedure && held.add(value)) {
            for (Scope one = procedure.scope; one != null; one = one.outer) {
                one.values.values().forEach(each -> hold(each, held));
            }
            quotesIn(procedure.lambda.get(2)).forEach(one -> hold(quotes.get(one), held));
        }
    }

    @Override
    public int count(int what) {
        int[] all = {place, text.length(), globals.size(), there.size(), made, steps, greatest, atHand == null ? 0 : 1};
        return what < 0 || what >= all.length ? -1 : all[what];
    }
}
