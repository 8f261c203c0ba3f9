import java.util.Arrays;
import java.util.NoSuchElementException;

/** A system for a small Scheme: what its methods promise stands in the document, DOC.md. */
public final class SchemeSystem {
    private static final int TEXT_MOST = 64;
    private static final int LISTS_DEEPEST = 8;
    private static final int PARAMETERS_MOST = 6;
    private static final int STEPS_MOST = 1000;
    private static final int DEPTH_MOST = 40;
    private static final int OBJECTS_MOST = 120;
    private static final int LETTERS_MOST = 80;

    /** The NAMES that may stand for a VALUE; a GLOBAL's number is its NAME's place here. */
    private static final String VARIABLES = "abcdefghijklmnopqrstuvwxyz+-*/%<=";
    /** The GLOBALS of a new object; each built-in PROCEDURE is known by its first NAME. */
    private static final String PRIMITIVES = "+-*/%<=chtnpq";

    // Kinds of VALUES; FALSE is 0, so that a new row is full of FALSE.
    private static final int FALSE = 0;
    private static final int TRUE = 1;
    private static final int EMPTY = 2;
    private static final int INT = 3;
    private static final int FLOAT = 4;
    private static final int NAME = 5;
    private static final int PAIR = 6;
    private static final int PRIMITIVE = 7;
    private static final int PROCEDURE = 8;

    private final char[] text;
    private int textLength;
    private final Reader reader;
    private final Compiler compiler;
    private final Heap heap;
    private final Machine machine;
    private final Writer writer;
    private final Row latest;
    private Program atHand;

    public SchemeSystem() {
        text = new char[TEXT_MOST];
        textLength = 0;
        reader = new Reader(text);
        compiler = new Compiler();
        heap = new Heap(new Environments());
        machine = new Machine(heap);
        writer = new Writer(heap);
        latest = new Row(1);
        atHand = null;
        writer.write(latest, 0);
    }

    public int type(long eight) throws IllegalArgumentException, IllegalStateException {
        int more = 0;
        for (int shift = 56; shift >= 0; shift -= 8) {
            int one = byteAt(eight, shift);
            if (one != 0) {
                if (one < 32 || one > 126) {
                    throw new IllegalArgumentException();
                }
                more++;
            }
        }
        if (textLength + more > TEXT_MOST) {
            throw new IllegalStateException();
        }
        for (int shift = 56; shift >= 0; shift -= 8) {
            int one = byteAt(eight, shift);
            if (one != 0) {
                text[textLength] = (char) one;
                textLength++;
            }
        }
        return textLength;
    }

    public int compile() throws IllegalArgumentException {
        int length = textLength;
        textLength = 0;
        atHand = null;
        Program program = compiler.translate(reader.read(length));
        if (program.pairs > heap.room()) {
            throw new IllegalArgumentException();
        }
        program.makeConstants(heap);
        atHand = program;
        return program.instructions;
    }

    public int run() throws NoSuchElementException, IllegalStateException, UnsupportedOperationException,
            ArithmeticException {
        if (atHand == null) {
            throw new NoSuchElementException();
        }
        machine.execute(atHand);
        machine.giveResult(latest);
        writer.write(latest, 0);
        return machine.steps;
    }

    public int letter(int i) throws NoSuchElementException {
        if (i == -1) {
            return writer.length;
        }
        if (i < 0 || i >= writer.length) {
            throw new NoSuchElementException();
        }
        return writer.letters[i];
    }

    public double number(int i) throws NoSuchElementException {
        if (i < 0 || i >= writer.floatsLength) {
            throw new NoSuchElementException();
        }
        return writer.floats[i];
    }

    public int collect() {
        heap.letAllGo();
        heap.holdAll(machine.globals, 0, machine.globals.size);
        heap.holdAll(latest, 0, 1);
        if (atHand != null) {
            heap.holdAll(atHand.constants, 0, atHand.constants.size);
        }
        heap.holdWhatTheyLeadTo();
        return heap.sweep();
    }

    public int count(int what) {
        switch (what) {
            case 0:
                return reader.place;
            case 1:
                return textLength;
            case 2:
                return machine.globalsDefined;
            case 3:
                return OBJECTS_MOST - heap.room();
            case 4:
                return heap.made;
            case 5:
                return machine.steps;
            case 6:
                return machine.greatestDepth;
            case 7:
                return atHand == null ? 0 : 1;
            default:
                return -1;
        }
    }

    private static int byteAt(long eight, int shift) {
        return (int) (eight >>> shift) & 255;
    }

    /** A row of VALUES side by side, so that running makes no object for a VALUE. */
    private static final class Row {
        final int size;
        private final int[] kinds;
        /** An INT, a NAME's letter, a primitive's letter or an OBJECT's number; else 0. */
        private final int[] wholes;
        private final double[] reals;

        Row(int size) {
            this.size = size;
            kinds = new int[size];
            wholes = new int[size];
            reals = new double[size];
        }

        int kind(int at) {
            return kinds[at];
        }

        int whole(int at) {
            return wholes[at];
        }

        /** What an INT or a FLOAT comes to as a FLOAT: no INT loses anything by it. */
        double real(int at) {
            return kinds[at] == FLOAT ? reals[at] : (double) wholes[at];
        }

        boolean isNumeric(int at) {
            return kinds[at] == INT || kinds[at] == FLOAT;
        }

        void put(int at, int kind, int whole) {
            kinds[at] = kind;
            wholes[at] = whole;
            reals[at] = 0.0;
        }

        void putFloat(int at, double real) {
            kinds[at] = FLOAT;
            wholes[at] = 0;
            reals[at] = real;
        }

        void putTruth(int at, boolean truth) {
            put(at, truth ? TRUE : FALSE, 0);
        }

        void copy(int at, Row from, int place) {
            kinds[at] = from.kinds[place];
            wholes[at] = from.wholes[place];
            reals[at] = from.reals[place];
        }

        boolean same(int one, int other) {
            return kinds[one] == kinds[other] && wholes[one] == wholes[other] && reals[one] == reals[other];
        }
    }

    /** What a text says, before it means anything: a LIST has the kind PAIR, an empty one EMPTY. */
    private static final class Datum {
        int kind;
        final int whole;
        final double real;
        /** How many stand in the LIST. */
        int size;
        Datum first;
        private Datum last;
        /** The one behind it in its LIST. */
        Datum next;

        Datum(int kind, int whole, double real) {
            this.kind = kind;
            this.whole = whole;
            this.real = real;
        }

        void add(Datum one) {
            if (last == null) {
                first = one;
            } else {
                last.next = one;
            }
            last = one;
            kind = PAIR;
            size++;
        }

        /** The part at that place of a LIST, or null. */
        Datum part(int at) {
            Datum one = first;
            for (int i = 0; i < at && one != null; i++) {
                one = one.next;
            }
            return one;
        }

        boolean isCapital() {
            return kind == NAME && whole >= 'A' && whole <= 'Z';
        }
    }

    /** Reads a text into the DATUM that it has. */
    private static final class Reader {
        private static final int DIGITS_MOST = 9;
        private static final int DECIMALS_MOST = 3;

        /** THE PLACE of the latest text that couldn't be read. */
        int place;
        private final char[] text;
        private int length;
        private int at;

        Reader(char[] text) {
            this.text = text;
            place = -1;
        }

        Datum read(int textLength) {
            length = textLength;
            at = 0;
            Datum all = datum(0);
            skipSpaces();
            if (at < length) {
                failHere();
            }
            return all;
        }

        private void failHere() {
            place = at;
            throw new IllegalArgumentException();
        }

        private void skipSpaces() {
            while (at < length && text[at] == ' ') {
                at++;
            }
        }

        /** The letter at hand, 0 at the end: no text has that one. */
        private int here() {
            return at < length ? text[at] : 0;
        }

        private boolean digitIsHere() {
            return here() >= '0' && here() <= '9';
        }

        private Datum datum(int around) {
            skipSpaces();
            int letter = here();
            if (digitIsHere()) {
                return numeral();
            }
            if ((letter == '(' || letter == '\'') && around < LISTS_DEEPEST) {
                at++;
                return letter == '(' ? list(around + 1) : quoted(around + 1);
            }
            if (letter == '?' || letter == '!') {
                at++;
                return new Datum(letter == '?' ? TRUE : FALSE, 0, 0.0);
            }
            if (VARIABLES.indexOf((char) letter) < 0 && (letter < 'A' || letter > 'Z')) {
                failHere();
            }
            at++;
            return new Datum(NAME, letter, 0.0);
        }

        private Datum list(int depth) {
            Datum all = new Datum(EMPTY, 0, 0.0);
            skipSpaces();
            for (int i = 0; i < TEXT_MOST && at < length && here() != ')'; i++) {
                all.add(datum(depth));
                skipSpaces();
            }
            if (here() != ')') {
                failHere();
            }
            at++;
            return all;
        }

        private Datum quoted(int depth) {
            Datum all = new Datum(EMPTY, 0, 0.0);
            all.add(new Datum(NAME, 'Q', 0.0));
            all.add(datum(depth));
            return all;
        }

        private Datum numeral() {
            int start = at;
            int whole = digits(0, DIGITS_MOST);
            int wholeDigits = at - start;
            if (here() != '.') {
                return new Datum(INT, whole, 0.0);
            }
            int most = Math.min(DECIMALS_MOST, DIGITS_MOST - wholeDigits);
            if (most == 0) {
                failHere();
            }
            at++;
            if (!digitIsHere()) {
                failHere();
            }
            int point = at;
            int all = digits(whole, most);
            return new Datum(FLOAT, 0, all / powerOfTen(at - point));
        }

        /** Goes on with the digits that stand here; one more than may be there can't be read. */
        private int digits(int before, int most) {
            int all = before;
            for (int i = 0; i < most && digitIsHere(); i++) {
                all = all * 10 + here() - '0';
                at++;
            }
            if (digitIsHere()) {
                failHere();
            }
            return all;
        }

        private static double powerOfTen(int decimals) {
            return decimals == 1 ? 10.0 : decimals == 2 ? 100.0 : 1000.0;
        }
    }

    /** The instructions of one L in its program, with the NAMES that they find in their environment. */
    private static final class Template {
        final Program program;
        /** That of the L around it, or null. */
        final Template around;
        private final int[] names;
        int size;
        int start;
        /** The constants of its e: from this one up to the one before constantsEnd. */
        int constantsStart;
        int constantsEnd;

        Template(Program program, Template around) {
            this.program = program;
            this.around = around;
            names = new int[PARAMETERS_MOST];
        }

        void addName(int name) {
            if (size >= PARAMETERS_MOST || find(name) >= 0) {
                throw new IllegalArgumentException();
            }
            names[size] = name;
            size++;
        }

        int find(int name) {
            for (int i = 0; i < size; i++) {
                if (names[i] == name) {
                    return i;
                }
            }
            return -1;
        }
    }

    /** A compiled text. */
    private static final class Program {
        // Instructions; "up" is how many environments further out a NAME is.
        static final int ATOM = 0;          // kind, whole
        static final int CONSTANT = 1;      // which
        static final int LOCAL = 2;         // up, which
        static final int GLOBAL = 3;        // which
        static final int SET_LOCAL = 4;     // up, which
        static final int SET_GLOBAL = 5;    // which
        static final int DEFINE = 6;        // which
        static final int CLOSE = 7;         // template, where it goes on
        static final int JUMP_IF_FALSE = 8; // to
        static final int JUMP = 9;          // to
        static final int DROP = 10;
        static final int CALL = 11;         // arguments
        static final int TAIL_CALL = 12;    // arguments
        static final int RETURN = 13;

        /** Ints that an instruction takes: what it is, and two that go with it. */
        static final int WIDTH = 3;
        /** A character of a text brings less than 4 instructions and half a constant or template. */
        static final int INSTRUCTIONS_MOST = 4 * TEXT_MOST;

        int[] code;
        int instructions;
        /** How many PAIRS its Q's need. */
        int pairs;
        Row constants;
        final Datum[] constantData;
        int constantsLength;
        final Template[] templates;
        int templatesLength;

        Program() {
            constantData = new Datum[TEXT_MOST];
            templates = new Template[TEXT_MOST];
            constants = new Row(0);
        }

        int addConstant(Datum datum) {
            if (constantsLength >= TEXT_MOST) {
                throw new IllegalArgumentException();
            }
            constantData[constantsLength] = datum;
            constantsLength++;
            pairs += pairsOf(datum, 0);
            return constantsLength - 1;
        }

        int addTemplate(Template template) {
            if (templatesLength >= TEXT_MOST) {
                throw new IllegalArgumentException();
            }
            templates[templatesLength] = template;
            templatesLength++;
            return templatesLength - 1;
        }

        private static int pairsOf(Datum datum, int depth) {
            if (depth > LISTS_DEEPEST) {
                throw new IllegalArgumentException();
            }
            int all = datum.size;
            for (Datum one = datum.first; one != null; one = one.next) {
                all += pairsOf(one, depth + 1);
            }
            return all;
        }

        void makeConstants(Heap heap) {
            constants = new Row(constantsLength);
            for (int i = 0; i < constantsLength; i++) {
                makeValue(heap, constantData[i], constants, i, 0);
            }
        }

        private static void makeValue(Heap heap, Datum datum, Row row, int at, int depth) {
            if (datum.kind == PAIR && depth < LISTS_DEEPEST) {
                makeList(heap, datum, row, at, depth + 1);
            } else if (datum.kind == FLOAT) {
                row.putFloat(at, datum.real);
            } else {
                row.put(at, datum.kind, datum.whole);
            }
        }

        private static void makeList(Heap heap, Datum list, Row row, int at, int depth) {
            Row rests = row;
            int rest = at;
            for (Datum one = list.first; one != null; one = one.next) {
                int pair = heap.makePair();
                makeValue(heap, one, heap.parts, Heap.first(pair), depth);
                rests.put(rest, PAIR, pair);
                rests = heap.parts;
                rest = Heap.rest(pair);
            }
            rests.put(rest, EMPTY, 0);
        }
    }

    /** Writes the instructions of a DATUM: B, A, O, C and N as what the document says they are like. */
    private static final class Compiler {
        private final int[] code;
        private int written;
        private Program program;

        Compiler() {
            code = new int[(Program.INSTRUCTIONS_MOST + 1) * Program.WIDTH];
        }

        Program translate(Datum datum) {
            program = new Program();
            written = 0;
            if (begins(datum, 'D')) {
                define(datum);
            } else {
                expression(datum, null, true, 0);
            }
            program.instructions = written;
            emit(Program.RETURN, 0, 0);
            program.code = Arrays.copyOf(code, written * Program.WIDTH);
            return program;
        }

        private int emit(int what, int one, int other) {
            int at = written * Program.WIDTH;
            if (at + Program.WIDTH > code.length) {
                throw new IllegalArgumentException();
            }
            code[at] = what;
            code[at + 1] = one;
            code[at + 2] = other;
            written++;
            return written - 1;
        }

        /** Lets an instruction that was written before go to the next one. */
        private void leadHere(int jump) {
            boolean closes = code[jump * Program.WIDTH] == Program.CLOSE;
            code[jump * Program.WIDTH + (closes ? 2 : 1)] = written;
        }

        private static boolean begins(Datum datum, int name) {
            return datum != null && datum.first != null && datum.first.kind == NAME && datum.first.whole == name;
        }

        private static void need(boolean right) {
            if (!right) {
                throw new IllegalArgumentException();
            }
        }

        private static int variable(Datum datum) {
            need(datum != null && datum.kind == NAME && !datum.isCapital());
            return datum.whole;
        }

        private static int globalOf(int name) {
            return VARIABLES.indexOf((char) name);
        }

        private void define(Datum form) {
            need(form.size == 3);
            int global = globalOf(variable(form.part(1)));
            expression(form.part(2), null, false, 1);
            emit(Program.DEFINE, global, 0);
        }

        private void expression(Datum datum, Template around, boolean tail, int depth) {
            need(datum != null && datum.kind != EMPTY && depth <= LISTS_DEEPEST);
            if (datum.kind == PAIR) {
                list(datum, around, tail, depth + 1);
            } else if (datum.kind == NAME) {
                reach(Program.LOCAL, Program.GLOBAL, variable(datum), around);
            } else {
                literal(datum);
            }
        }

        private void list(Datum form, Template around, boolean tail, int depth) {
            need(form.first != null);
            if (!form.first.isCapital()) {
                procedureCall(form, around, tail, depth);
                return;
            }
            switch (form.first.whole) {
                case 'Q':
                    need(form.size == 2);
                    literal(form.part(1));
                    break;
                case 'I':
                    choice(form, around, tail, depth);
                    break;
                case 'S':
                    assignment(form, around, depth);
                    break;
                case 'L':
                    lambda(form, around, depth);
                    break;
                case 'B':
                    binding(form, around, tail, depth);
                    break;
                case 'A':
                    allOf(form, around, tail, depth);
                    break;
                case 'O':
                    oneOf(form, around, tail, depth);
                    break;
                case 'C':
                    cases(form, around, tail, depth);
                    break;
                case 'N':
                    loop(form, around, tail, depth);
                    break;
                case 'X':
                    sequence(form, around, tail, depth);
                    break;
                default:
                    need(false);
            }
        }

        /** Reads or sets a NAME where the innermost L around has it, else as a GLOBAL. */
        private void reach(int local, int global, int name, Template around) {
            int up = 0;
            for (Template one = around; one != null; one = one.around) {
                int which = one.find(name);
                if (which >= 0) {
                    emit(local, up, which);
                    return;
                }
                up++;
            }
            emit(global, globalOf(name), 0);
        }

        private void literal(Datum datum) {
            need(datum != null);
            if (datum.kind == PAIR || datum.kind == FLOAT) {
                emit(Program.CONSTANT, program.addConstant(datum), 0);
            } else {
                emit(Program.ATOM, datum.kind, datum.whole);
            }
        }

        private void call(int arguments, boolean tail) {
            emit(tail ? Program.TAIL_CALL : Program.CALL, arguments, 0);
        }

        private void procedureCall(Datum form, Template around, boolean tail, int depth) {
            for (Datum one = form.first; one != null; one = one.next) {
                expression(one, around, false, depth);
            }
            call(form.size - 1, tail);
        }

        private void choice(Datum form, Template around, boolean tail, int depth) {
            need(form.size == 4);
            expression(form.part(1), around, false, depth);
            int otherwise = emit(Program.JUMP_IF_FALSE, 0, 0);
            expression(form.part(2), around, tail, depth);
            int end = emit(Program.JUMP, 0, 0);
            leadHere(otherwise);
            expression(form.part(3), around, tail, depth);
            leadHere(end);
        }

        private void assignment(Datum form, Template around, int depth) {
            need(form.size == 3);
            int name = variable(form.part(1));
            expression(form.part(2), around, false, depth);
            reach(Program.SET_LOCAL, Program.SET_GLOBAL, name, around);
        }

        private void lambda(Datum form, Template around, int depth) {
            need(form.size == 3);
            Template template = new Template(program, around);
            Datum names = form.part(1);
            need(names != null && (names.kind == PAIR || names.kind == EMPTY));
            for (Datum one = names.first; one != null; one = one.next) {
                template.addName(variable(one));
            }
            body(template, form.part(2), depth);
        }

        private void body(Template template, Datum inside, int depth) {
            int close = open(template);
            expression(inside, template, true, depth);
            end(template, close);
        }

        private int open(Template template) {
            int close = emit(Program.CLOSE, program.addTemplate(template), 0);
            template.start = written;
            template.constantsStart = program.constantsLength;
            return close;
        }

        private void end(Template template, int close) {
            emit(Program.RETURN, 0, 0);
            template.constantsEnd = program.constantsLength;
            leadHere(close);
        }

        /** The template of an L with the NAMES of ((v e) ..). */
        private Template templateOf(Datum bindings, Template around) {
            need(bindings != null && (bindings.kind == PAIR || bindings.kind == EMPTY));
            Template template = new Template(program, around);
            for (Datum one = bindings.first; one != null; one = one.next) {
                need(one.size == 2);
                template.addName(variable(one.first));
            }
            return template;
        }

        /** The e's of ((v e) ..) as the ARGUMENTS of a CALL. */
        private void callWith(Datum bindings, Template around, boolean tail, int depth) {
            for (Datum one = bindings.first; one != null; one = one.next) {
                expression(one.part(1), around, false, depth + 2);
            }
            call(bindings.size, tail);
        }

        private void binding(Datum form, Template around, boolean tail, int depth) {
            need(form.size == 3);
            Datum bindings = form.part(1);
            body(templateOf(bindings, around), form.part(2), depth);
            callWith(bindings, around, tail, depth);
        }

        private void loop(Datum form, Template around, boolean tail, int depth) {
            need(form.size == 4);
            Template outer = new Template(program, around);
            outer.addName(variable(form.part(1)));
            Datum bindings = form.part(2);
            int close = open(outer);
            body(templateOf(bindings, outer), form.part(3), depth);
            emit(Program.SET_LOCAL, 0, 0);
            emit(Program.DROP, 0, 0);
            emit(Program.LOCAL, 0, 0);
            callWith(bindings, outer, true, depth);
            end(outer, close);
            emit(Program.ATOM, FALSE, 0);
            call(1, tail);
        }

        /** As I's in one another, written without going deeper for each: a text can have 60. */
        private void allOf(Datum form, Template around, boolean tail, int depth) {
            if (form.size == 1) {
                emit(Program.ATOM, TRUE, 0);
                return;
            }
            int[] otherwise = new int[form.size];
            int open = 0;
            for (Datum one = form.part(1); one != null; one = one.next) {
                boolean last = one.next == null;
                expression(one, around, tail && last, depth);
                if (!last) {
                    otherwise[open] = emit(Program.JUMP_IF_FALSE, 0, 0);
                    open++;
                }
            }
            for (int i = open - 1; i >= 0; i--) {
                int end = emit(Program.JUMP, 0, 0);
                leadHere(otherwise[i]);
                emit(Program.ATOM, FALSE, 0);
                leadHere(end);
            }
        }

        private void oneOf(Datum form, Template around, boolean tail, int depth) {
            if (form.size == 1) {
                emit(Program.ATOM, FALSE, 0);
                return;
            }
            int[] ends = new int[form.size];
            int open = 0;
            for (Datum one = form.part(1); one != null; one = one.next) {
                boolean last = one.next == null;
                expression(one, around, tail && last, depth);
                if (!last) {
                    int otherwise = emit(Program.JUMP_IF_FALSE, 0, 0);
                    emit(Program.ATOM, TRUE, 0);
                    ends[open] = emit(Program.JUMP, 0, 0);
                    open++;
                    leadHere(otherwise);
                }
            }
            leadAllHere(ends, open);
        }

        private void cases(Datum form, Template around, boolean tail, int depth) {
            int[] ends = new int[form.size];
            int open = 0;
            for (Datum one = form.part(1); one != null; one = one.next) {
                need(one.size == 2);
                expression(one.first, around, false, depth + 1);
                int otherwise = emit(Program.JUMP_IF_FALSE, 0, 0);
                expression(one.part(1), around, tail, depth + 1);
                ends[open] = emit(Program.JUMP, 0, 0);
                open++;
                leadHere(otherwise);
            }
            emit(Program.ATOM, FALSE, 0);
            leadAllHere(ends, open);
        }

        private void leadAllHere(int[] jumps, int open) {
            for (int i = 0; i < open && i < jumps.length; i++) {
                leadHere(jumps[i]);
            }
        }

        private void sequence(Datum form, Template around, boolean tail, int depth) {
            need(form.size >= 2);
            for (Datum one = form.part(1); one != null; one = one.next) {
                boolean last = one.next == null;
                expression(one, around, tail && last, depth);
                if (!last) {
                    emit(Program.DROP, 0, 0);
                }
            }
        }
    }

    /** Where the NAMES of L's are while something can still reach them; used again after that. */
    private static final class Environments {
        static final int NONE = -1;
        /** LISTS 8 deep hold at most 7 N's in one another, of two L's each. */
        static final int DEEPEST = 2 * LISTS_DEEPEST;
        /** Enough for what all PROCEDURES keep, and one for each STEP of a run. */
        private static final int MOST = OBJECTS_MOST * DEEPEST + STEPS_MOST;

        final Row values;
        final int[] around;
        final int[] sizes;
        private final boolean[] kept;
        private final int[] free;
        private int freeLength;
        private int used;

        Environments() {
            values = new Row(MOST * PARAMETERS_MOST);
            around = new int[MOST];
            sizes = new int[MOST];
            kept = new boolean[MOST];
            free = new int[MOST];
        }

        static int slot(int environment, int which) {
            return environment * PARAMETERS_MOST + which;
        }

        int make(int outer, int size) {
            if (freeLength == 0 && used >= MOST) {
                throw new IllegalStateException();
            }
            int made = used;
            if (freeLength > 0) {
                freeLength--;
                made = free[freeLength];
            } else {
                used++;
            }
            around[made] = outer;
            sizes[made] = size;
            return made;
        }

        int outward(int environment, int up) {
            int one = environment;
            for (int i = 0; i < up && one != NONE; i++) {
                one = around[one];
            }
            return one;
        }

        void keepNone() {
            for (int i = 0; i < used; i++) {
                kept[i] = false;
            }
        }

        void keep(int environment) {
            int one = environment;
            for (int i = 0; i < DEEPEST && one != NONE; i++) {
                kept[one] = true;
                one = around[one];
            }
        }

        void freeOthers() {
            freeLength = 0;
            for (int i = used - 1; i >= 0; i--) {
                if (!kept[i]) {
                    free[freeLength] = i;
                    freeLength++;
                }
            }
        }
    }

    /** The OBJECTS: PAIRS and PROCEDURES of L, each known by its number. */
    private static final class Heap {
        /** How many OBJECTS came to be in all. */
        int made;
        final Environments environments;
        /** Both VALUES of each PAIR. */
        final Row parts;
        /** A PROCEDURE's; null where there is none. */
        private final Template[] templates;
        private final int[] homes;
        private final boolean[] there;
        private final boolean[] held;
        private final int[] waiting;
        private int waitingLength;
        private final int[] free;
        private int freeLength;

        Heap(Environments environments) {
            this.environments = environments;
            parts = new Row(2 * OBJECTS_MOST);
            templates = new Template[OBJECTS_MOST];
            homes = new int[OBJECTS_MOST];
            there = new boolean[OBJECTS_MOST];
            held = new boolean[OBJECTS_MOST];
            waiting = new int[OBJECTS_MOST];
            free = new int[OBJECTS_MOST];
            for (int i = 0; i < OBJECTS_MOST; i++) {
                free[i] = OBJECTS_MOST - 1 - i;
            }
            freeLength = OBJECTS_MOST;
        }

        static int first(int pair) {
            return 2 * pair;
        }

        static int rest(int pair) {
            return 2 * pair + 1;
        }

        int room() {
            return freeLength;
        }

        Template template(int procedure) {
            return templates[procedure];
        }

        int home(int procedure) {
            return homes[procedure];
        }

        int makePair() {
            return makeObject(null, Environments.NONE);
        }

        int makeProcedure(Template template, int environment) {
            return makeObject(template, environment);
        }

        private int makeObject(Template template, int environment) {
            if (freeLength == 0) {
                throw new IllegalStateException();
            }
            freeLength--;
            int object = free[freeLength];
            there[object] = true;
            templates[object] = template;
            homes[object] = environment;
            made++;
            return object;
        }

        /** Only between runs: what runs may need environments that no PROCEDURE keeps. */
        void freeEnvironments() {
            environments.keepNone();
            for (int i = 0; i < OBJECTS_MOST; i++) {
                if (there[i] && templates[i] != null) {
                    environments.keep(homes[i]);
                }
            }
            environments.freeOthers();
        }

        void letAllGo() {
            waitingLength = 0;
            for (int i = 0; i < OBJECTS_MOST; i++) {
                held[i] = false;
            }
        }

        void holdAll(Row row, int start, int end) {
            for (int i = start; i < end && i < row.size; i++) {
                if (row.kind(i) == PAIR || row.kind(i) == PROCEDURE) {
                    hold(row.whole(i));
                }
            }
        }

        private void hold(int object) {
            if (!held[object] && waitingLength < OBJECTS_MOST) {
                held[object] = true;
                waiting[waitingLength] = object;
                waitingLength++;
            }
        }

        /** Each OBJECT waits once at most, since it is held by then. */
        void holdWhatTheyLeadTo() {
            for (int i = 0; i < OBJECTS_MOST && waitingLength > 0; i++) {
                waitingLength--;
                int object = waiting[waitingLength];
                Template template = templates[object];
                if (template == null) {
                    holdAll(parts, first(object), rest(object) + 1);
                } else {
                    holdAll(template.program.constants, template.constantsStart, template.constantsEnd);
                    holdSurroundings(homes[object]);
                }
            }
        }

        private void holdSurroundings(int environment) {
            int one = environment;
            for (int i = 0; i < Environments.DEEPEST && one != Environments.NONE; i++) {
                int start = Environments.slot(one, 0);
                holdAll(environments.values, start, start + environments.sizes[one]);
                one = environments.around[one];
            }
        }

        int sweep() {
            int gone = 0;
            for (int i = 0; i < OBJECTS_MOST; i++) {
                if (there[i] && !held[i]) {
                    there[i] = false;
                    templates[i] = null;
                    free[freeLength] = i;
                    freeLength++;
                    gone++;
                }
            }
            return gone;
        }
    }

    /** The built-in PROCEDURES. */
    private static final class Primitives {
        private final Heap heap;

        Primitives(Heap heap) {
            this.heap = heap;
        }

        /** The PROCEDURE stands at that place with its ARGUMENTS behind it; its VALUE takes its place. */
        void apply(Row stack, int at, int arguments) {
            int which = stack.whole(at);
            boolean takesOne = which == 'h' || which == 't' || which == 'n' || which == 'p';
            need(arguments == (takesOne ? 1 : 2));
            switch (which) {
                case 'c':
                    makePair(stack, at);
                    break;
                case 'h':
                case 't':
                    need(stack.kind(at + 1) == PAIR);
                    int pair = stack.whole(at + 1);
                    stack.copy(at, heap.parts, which == 'h' ? Heap.first(pair) : Heap.rest(pair));
                    break;
                case 'n':
                    stack.putTruth(at, stack.kind(at + 1) == EMPTY);
                    break;
                case 'p':
                    stack.putTruth(at, stack.kind(at + 1) == PAIR);
                    break;
                case 'q':
                    stack.putTruth(at, stack.same(at + 1, at + 2));
                    break;
                default:
                    need(stack.isNumeric(at + 1) && stack.isNumeric(at + 2));
                    calculate(which, stack, at);
            }
        }

        private static void need(boolean fit) {
            if (!fit) {
                throw new UnsupportedOperationException();
            }
        }

        private void makePair(Row stack, int at) {
            int pair = heap.makePair();
            heap.parts.copy(Heap.first(pair), stack, at + 1);
            heap.parts.copy(Heap.rest(pair), stack, at + 2);
            stack.put(at, PAIR, pair);
        }

        private static void calculate(int which, Row stack, int at) {
            boolean ints = stack.kind(at + 1) == INT && stack.kind(at + 2) == INT;
            if (which == '<') {
                stack.putTruth(at, stack.real(at + 1) < stack.real(at + 2));
            } else if (which == '=') {
                stack.putTruth(at, stack.real(at + 1) == stack.real(at + 2));
            } else if (which == '%') {
                need(ints);
                stack.put(at, INT, remainder(stack.whole(at + 1), stack.whole(at + 2)));
            } else if (ints && which != '/') {
                stack.put(at, INT, ofInts(which, stack.whole(at + 1), stack.whole(at + 2)));
            } else {
                stack.putFloat(at, inRange(ofFloats(which, stack.real(at + 1), stack.real(at + 2))));
            }
        }

        private static int remainder(int one, int other) {
            if (other == 0) {
                throw new ArithmeticException();
            }
            return one % other;
        }

        private static int ofInts(int which, int one, int other) {
            return which == '+' ? one + other : which == '-' ? one - other : one * other;
        }

        private static double ofFloats(int which, double one, double other) {
            if (which != '/') {
                return which == '+' ? one + other : which == '-' ? one - other : one * other;
            }
            if (other == 0.0) {
                throw new ArithmeticException();
            }
            return one / other;
        }

        private static double inRange(double real) {
            if (real > 1000000000.0 || real < -1000000000.0) {
                throw new ArithmeticException();
            }
            return real;
        }
    }

    /** Runs programs; the GLOBALS are its. */
    private static final class Machine {
        /** What one DEPTH keeps waiting is never more than its text has characters. */
        private static final int STACK_MOST = (DEPTH_MOST + 1) * TEXT_MOST;
        /** Between two STEPS no instruction comes twice. */
        private static final int ROUNDS_MOST = (STEPS_MOST + 2) * (Program.INSTRUCTIONS_MOST + 1);

        int steps;
        int greatestDepth;
        int globalsDefined;
        final Row globals;
        private final boolean[] defined;
        private final Heap heap;
        private final Environments environments;
        private final Primitives primitives;
        private final Row stack;
        private int top;
        private int depth;
        private Program program;
        private int next;
        private int environment;
        // What a CALL that isn't in the TAIL comes back to, by the DEPTH it was in.
        private final Program[] callerPrograms;
        private final int[] callerNexts;
        private final int[] callerEnvironments;

        Machine(Heap heap) {
            this.heap = heap;
            environments = heap.environments;
            primitives = new Primitives(heap);
            stack = new Row(STACK_MOST);
            callerPrograms = new Program[DEPTH_MOST + 1];
            callerNexts = new int[DEPTH_MOST + 1];
            callerEnvironments = new int[DEPTH_MOST + 1];
            globals = new Row(VARIABLES.length());
            defined = new boolean[VARIABLES.length()];
            for (int i = 0; i < PRIMITIVES.length(); i++) {
                int global = VARIABLES.indexOf(PRIMITIVES.charAt(i));
                globals.put(global, PRIMITIVE, PRIMITIVES.charAt(i));
                defined[global] = true;
            }
            globalsDefined = PRIMITIVES.length();
        }

        void execute(Program whole) {
            heap.freeEnvironments();
            steps = 0;
            depth = 1;
            greatestDepth = 1;
            top = 0;
            program = whole;
            next = 0;
            environment = Environments.NONE;
            boolean going = true;
            for (int i = 0; going && i < ROUNDS_MOST; i++) {
                going = advance();
            }
        }

        void giveResult(Row latest) {
            latest.copy(0, stack, 0);
        }

        /** Whether there is more to do after one instruction. */
        private boolean advance() {
            int at = next * Program.WIDTH;
            int one = program.code[at + 1];
            int other = program.code[at + 2];
            next++;
            switch (program.code[at]) {
                case Program.ATOM:
                    push();
                    stack.put(top - 1, one, other);
                    break;
                case Program.CONSTANT:
                    push();
                    stack.copy(top - 1, program.constants, one);
                    break;
                case Program.LOCAL:
                    push();
                    stack.copy(top - 1, environments.values, slot(one, other));
                    break;
                case Program.SET_LOCAL:
                    environments.values.copy(slot(one, other), stack, top - 1);
                    break;
                case Program.CLOSE:
                    push();
                    stack.put(top - 1, PROCEDURE, heap.makeProcedure(program.templates[one], environment));
                    next = other;
                    break;
                case Program.JUMP_IF_FALSE:
                    top--;
                    next = stack.kind(top) == FALSE ? one : next;
                    break;
                case Program.JUMP:
                    next = one;
                    break;
                case Program.DROP:
                    top--;
                    break;
                case Program.CALL:
                case Program.TAIL_CALL:
                    step(one, program.code[at] == Program.TAIL_CALL);
                    break;
                case Program.RETURN:
                    return comeBack();
                default:
                    useGlobal(program.code[at], one);
            }
            return true;
        }

        private void push() {
            if (top >= STACK_MOST) {
                throw new IllegalStateException();
            }
            top++;
        }

        private int slot(int up, int which) {
            return Environments.slot(environments.outward(environment, up), which);
        }

        private void useGlobal(int instruction, int global) {
            if (instruction == Program.DEFINE && !defined[global]) {
                defined[global] = true;
                globalsDefined++;
            }
            if (!defined[global]) {
                throw new NoSuchElementException();
            }
            if (instruction == Program.GLOBAL) {
                push();
                stack.copy(top - 1, globals, global);
            } else {
                globals.copy(global, stack, top - 1);
            }
        }

        private void step(int arguments, boolean tail) {
            if (steps >= STEPS_MOST) {
                throw new IllegalStateException();
            }
            steps++;
            int at = top - 1 - arguments;
            if (stack.kind(at) == PRIMITIVE) {
                primitives.apply(stack, at, arguments);
                top = at + 1;
            } else if (stack.kind(at) == PROCEDURE) {
                enter(at, arguments, tail);
            } else {
                throw new UnsupportedOperationException();
            }
        }

        private void enter(int at, int arguments, boolean tail) {
            int procedure = stack.whole(at);
            Template template = heap.template(procedure);
            if (template == null || template.size != arguments) {
                throw new UnsupportedOperationException();
            }
            if (!tail) {
                goDeeper();
            }
            environment = environments.make(heap.home(procedure), arguments);
            for (int i = 0; i < arguments; i++) {
                environments.values.copy(Environments.slot(environment, i), stack, at + 1 + i);
            }
            top = at;
            program = template.program;
            next = template.start;
        }

        private void goDeeper() {
            if (depth >= DEPTH_MOST) {
                throw new IllegalStateException();
            }
            callerPrograms[depth] = program;
            callerNexts[depth] = next;
            callerEnvironments[depth] = environment;
            depth++;
            greatestDepth = Math.max(greatestDepth, depth);
        }

        private boolean comeBack() {
            if (depth == 1) {
                return false;
            }
            depth--;
            program = callerPrograms[depth];
            next = callerNexts[depth];
            environment = callerEnvironments[depth];
            return true;
        }
    }

    /** Writes a VALUE as a text. */
    private static final class Writer {
        final char[] letters;
        int length;
        /** The FLOATS whose ~ stands in the text. */
        final double[] floats;
        int floatsLength;
        private final Heap heap;
        /** The PAIR at hand of each LIST whose end isn't written yet. */
        private final int[] open;
        private int openLength;

        Writer(Heap heap) {
            this.heap = heap;
            letters = new char[LETTERS_MOST];
            floats = new double[LETTERS_MOST];
            open = new int[LETTERS_MOST];
        }

        void write(Row row, int at) {
            length = 0;
            floatsLength = 0;
            openLength = 0;
            element(row, at);
            for (int i = 0; i < LETTERS_MOST && openLength > 0 && length < LETTERS_MOST; i++) {
                goOn();
            }
        }

        private void put(int letter) {
            if (length < LETTERS_MOST) {
                letters[length] = (char) letter;
                length++;
            }
        }

        /** Opens as many LISTS as begin here: each brings a bracket, so the text's end bounds them. */
        private void element(Row row, int at) {
            Row where = row;
            int place = at;
            for (int i = 0; i < LETTERS_MOST && where.kind(place) == PAIR && length < LETTERS_MOST; i++) {
                int pair = where.whole(place);
                put('(');
                open[openLength] = pair;
                openLength++;
                where = heap.parts;
                place = Heap.first(pair);
            }
            if (where.kind(place) != PAIR) {
                atom(where, place);
            }
        }

        private void goOn() {
            int rest = Heap.rest(open[openLength - 1]);
            if (heap.parts.kind(rest) == PAIR) {
                int pair = heap.parts.whole(rest);
                open[openLength - 1] = pair;
                put(' ');
                element(heap.parts, Heap.first(pair));
                return;
            }
            if (heap.parts.kind(rest) != EMPTY) {
                put(' ');
                put('.');
                put(' ');
                atom(heap.parts, rest);
            }
            put(')');
            openLength--;
        }

        private void atom(Row row, int at) {
            switch (row.kind(at)) {
                case INT:
                    decimal(row.whole(at));
                    break;
                case FLOAT:
                    if (length < LETTERS_MOST) {
                        floats[floatsLength] = row.real(at);
                        floatsLength++;
                    }
                    put('~');
                    break;
                case TRUE:
                    put('?');
                    break;
                case FALSE:
                    put('!');
                    break;
                case EMPTY:
                    put('(');
                    put(')');
                    break;
                case NAME:
                    put(row.whole(at));
                    break;
                default:
                    put('#');
            }
        }

        private void decimal(int whole) {
            long left = whole;
            if (left < 0) {
                put('-');
                left = -left;
            }
            boolean begun = false;
            for (long power = 1000000000L; power >= 1; power /= 10) {
                long digit = left / power % 10;
                begun = begun || digit != 0 || power == 1;
                if (begun) {
                    put('0' + (int) digit);
                }
            }
        }
    }
}
