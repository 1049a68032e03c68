/**
 * A machine of pairs: it reads programs of a small list language, lays them down as lists of
 * instructions, and runs them with four registers in a store of so many pairs.
 */
public final class PairMachine {
    public static final int NONE = -1;

    private static final int SMALLEST_SIZE = 20;
    private static final int LARGEST_SIZE = 250;
    private static final int MOST_STEPS = 200;
    private static final int DEEPEST = 9;
    private static final int FRAME_STRIDE = 16;

    private final int size;
    private final Text text;
    private final Reader reader;
    private final Code code;
    private final Coder coder;
    private final Machine machine;
    private int error;

    public PairMachine(int size) {
        this.size = Math.max(SMALLEST_SIZE, Math.min(LARGEST_SIZE, size));
        Tree tree = new Tree();
        text = new Text();
        reader = new Reader(text, tree);
        code = new Code(this.size);
        coder = new Coder(tree, code);
        machine = new Machine(this.size);
        error = NONE;
    }

    public boolean write(long w) {
        return text.append(w);
    }

    public int compile() throws IllegalArgumentException, IllegalStateException {
        error = reader.read();
        text.clear();
        if (error == NONE) {
            error = coder.layDown();
        }
        if (error != NONE) {
            throw new IllegalArgumentException("the text is no program, or a variable is not known");
        }
        if (code.cells() > size) {
            throw new IllegalStateException("the code has more cells than the store");
        }
        machine.load(code);
        return code.cells();
    }

    public int position() {
        return error;
    }

    public boolean start() {
        return machine.begin();
    }

    public int run(int n) throws IllegalArgumentException {
        if (n < 0 || n > MOST_STEPS) {
            throw new IllegalArgumentException("the number of steps is not 0 .. 200");
        }
        int steps = 0;
        while (steps < n && machine.mode() == Machine.RUNNING) {
            machine.step();
            steps++;
        }
        return steps;
    }

    public int state() {
        return machine.mode();
    }

    public int count(int what) {
        switch (what) {
            case 0: return machine.usedCells();
            case 1: return machine.reachableCells();
            case 2: return machine.collections();
            case 3: return machine.takenBack();
            case 4: return machine.steps();
            case 5: return machine.stackLength();
            case 6: return machine.dumpLength();
            default: return NONE;
        }
    }

    public int next() {
        return machine.mode() == Machine.RUNNING ? machine.instruction() : NONE;
    }

    public int shown(int k) {
        return machine.mode() == Machine.DONE ? machine.shownCode(k) : NONE;
    }

    /** The numbers of the instructions. */
    private static final class Op {
        static final int CONSTANT = 1;
        static final int VARIABLE = 2;
        static final int FUNCTION = 3;
        static final int APPLY = 4;
        static final int RETURN = 5;
        static final int FRAME = 6;
        static final int APPLY_IN_FRAME = 7;
        static final int CHOOSE = 8;
        static final int REJOIN = 9;
        static final int HEAD = 10;
        static final int TAIL = 11;
        static final int NO_PAIR = 12;
        static final int PAIR = 13;
        static final int SAME = 14;
        static final int ADD = 15;
        static final int SUBTRACT = 16;
        static final int MULTIPLY = 17;
        static final int LESS = 18;
        static final int STOP = 19;

        private static final int[] NEEDS = {0, 1, 1, 2, 4, 1, 1, 3, 1, 0, 1, 1, 1, 2, 1, 1, 1, 1, 1, 0};

        // The signs of the instructions from HEAD to LESS, in the order of their numbers.
        private static final String SIGNS = "^_!.=+-*<";

        static int needs(int op) {
            return op >= 0 && op < NEEDS.length ? NEEDS[op] : 0;
        }

        /** The instruction that a sign stands for, or NONE. */
        static int of(int sign) {
            if (sign == '?') {
                return CHOOSE;
            }
            int index = SIGNS.indexOf((char) sign);
            return index < 0 ? NONE : HEAD + index;
        }

        /** How many expressions stand behind the sign of an instruction. */
        static int operands(int op) {
            if (op == CHOOSE) {
                return 3;
            }
            return op <= NO_PAIR ? 1 : 2;
        }
    }

    /** Values as longs: the kind above, and below it an int, a letter or the number of a cell. */
    private static final class Value {
        static final long NIL = 0L;
        private static final long INT = 1L;
        private static final long SYMBOL = 2L;
        private static final long PAIR = 3L;
        private static final long FUNCTION = 4L;
        private static final long CONTENT = 0xFFFFFFFFL;

        static long number(int n) {
            return INT << 32 | n & CONTENT;
        }

        static long symbol(int letter) {
            return SYMBOL << 32 | letter & CONTENT;
        }

        static long pair(int cell) {
            return PAIR << 32 | cell & CONTENT;
        }

        static long function(int cell) {
            return FUNCTION << 32 | cell & CONTENT;
        }

        static boolean isNumber(long value) {
            return value >> 32 == INT;
        }

        static boolean isPair(long value) {
            return value >> 32 == PAIR;
        }

        static boolean isFunction(long value) {
            return value >> 32 == FUNCTION;
        }

        static boolean isSymbol(long value) {
            return value >> 32 == SYMBOL;
        }

        /** The number of the cell that the value is, or NONE if it is no cell. */
        static int cell(long value) {
            return value >> 32 >= PAIR ? (int) value : NONE;
        }

        static int content(long value) {
            return (int) value;
        }
    }

    /** The text that is written and not yet compiled. */
    private static final class Text {
        static final int LONGEST = 96;
        static final int END = 0;

        private final char[] codes;
        private int length;

        Text() {
            codes = new char[LONGEST];
        }

        boolean append(long w) {
            int more = charactersIn(w);
            if (more == NONE || length + more > LONGEST) {
                return false;
            }
            for (int shift = 56; shift >= 0; shift -= 8) {
                int code = codeIn(w, shift);
                if (code != 0 && length < LONGEST) {
                    codes[length] = (char) code;
                    length++;
                }
            }
            return true;
        }

        private static int codeIn(long w, int shift) {
            return (int) (w >>> shift) & 255;
        }

        /** How many characters the bytes of w are, or NONE if one of them is no character. */
        private static int charactersIn(long w) {
            int characters = 0;
            for (int shift = 56; shift >= 0; shift -= 8) {
                int code = codeIn(w, shift);
                if (code != 0) {
                    if (code < 32 || code > 126) {
                        return NONE;
                    }
                    characters++;
                }
            }
            return characters;
        }

        int length() {
            return length;
        }

        int codeAt(int index) {
            return index >= 0 && index < length ? codes[index] : END;
        }

        void clear() {
            length = 0;
        }
    }

    /** What was read: nodes with parts, kept in rows that are used again for each text. */
    private static final class Tree {
        static final int ROOT = 0;

        // The kinds of nodes.
        static final int NUMBER = 1;
        static final int LETTER = 2;
        static final int LIST = 3;
        static final int QUOTE = 4;
        static final int OPERATION = 5;
        static final int FUNCTION = 6;
        static final int PARAMETERS = 7;
        static final int BOUND = 8;
        static final int BOUND_IN_FRAME = 9;
        static final int BINDING = 10;
        static final int CALL = 11;

        // Every node has a character of its own in the text.
        private static final int ROOM = Text.LONGEST;

        private final int[] kinds;
        private final int[] values;
        private final int[] positions;
        private final int[] firstParts;
        private final int[] lastParts;
        private final int[] followers;
        private int nodes;

        Tree() {
            kinds = new int[ROOM];
            values = new int[ROOM];
            positions = new int[ROOM];
            firstParts = new int[ROOM];
            lastParts = new int[ROOM];
            followers = new int[ROOM];
        }

        void clear() {
            nodes = 0;
        }

        int add(int kind, int value, int position) {
            if (nodes >= ROOM) {
                return NONE;
            }
            int node = nodes;
            nodes++;
            kinds[node] = kind;
            values[node] = value;
            positions[node] = position;
            firstParts[node] = NONE;
            lastParts[node] = NONE;
            followers[node] = NONE;
            return node;
        }

        void addPart(int node, int part) {
            if (node < 0 || node >= nodes) {
                return;
            }
            int last = lastParts[node];
            if (last == NONE) {
                firstParts[node] = part;
            } else {
                followers[last] = part;
            }
            lastParts[node] = part;
        }

        private int entry(int[] row, int node) {
            return node >= 0 && node < nodes ? row[node] : NONE;
        }

        int kind(int node) {
            return entry(kinds, node);
        }

        int value(int node) {
            return entry(values, node);
        }

        int positionOf(int node) {
            return entry(positions, node);
        }

        int firstPart(int node) {
            return entry(firstParts, node);
        }

        int follower(int node) {
            return entry(followers, node);
        }

        int part(int node, int index) {
            int part = firstPart(node);
            for (int k = 0; k < index; k++) {
                part = follower(part);
            }
            return part;
        }

        int parts(int node) {
            int parts = 0;
            for (int part = firstPart(node); part != NONE && parts < ROOM; part = follower(part)) {
                parts++;
            }
            return parts;
        }

        /** The place of a letter among a node and its followers, or NONE. */
        int placeOf(int letter, int node) {
            int place = 0;
            for (int at = node; at >= 0 && at < nodes && place < ROOM; at = followers[at]) {
                if (values[at] == letter) {
                    return place;
                }
                place++;
            }
            return NONE;
        }
    }

    /** Reads the text as a program, up to the first character that none can have there. */
    private static final class Reader {
        private static final int MOST_DIGITS = 4;
        private static final int MOST_LETTERS = 3;
        private static final int MOST_ARGUMENTS = 3;

        private final Text text;
        private final Tree tree;
        private int at;

        Reader(Text text, Tree tree) {
            this.text = text;
            this.tree = tree;
        }

        /** The position of the error, or NONE if the text is a program, which the tree is then. */
        int read() {
            tree.clear();
            at = 0;
            try {
                expression(0);
            } catch (IllegalArgumentException e) {
                return at;
            }
            return at < text.length() ? at : NONE;
        }

        // The depth that the methods are handed is the number of brackets that stand open.

        private int expression(int depth) {
            int sign = text.codeAt(at);
            if (sign == '(') {
                return bracketed(depth);
            }
            if (sign != '\'') {
                return atom();
            }
            int node = tree.add(Tree.QUOTE, 0, at);
            at++;
            tree.addPart(node, datum(depth));
            return node;
        }

        private int bracketed(int depth) {
            open(depth);
            int sign = text.codeAt(at);
            if (sign == '\\') {
                return function(depth + 1);
            }
            if (sign == ':' || sign == ';') {
                return bound(sign, depth + 1);
            }
            boolean below0 = sign == '-' && isDigit(text.codeAt(at + 1));
            int op = Op.of(sign);
            return op == NONE || below0 ? call(depth + 1) : operation(op, depth + 1);
        }

        private int operation(int op, int depth) {
            int node = tree.add(Tree.OPERATION, op, at);
            at++;
            for (int k = 0; k < Op.operands(op); k++) {
                need(' ');
                tree.addPart(node, expression(depth));
            }
            need(')');
            return node;
        }

        private int call(int depth) {
            int node = tree.add(Tree.CALL, 0, at);
            tree.addPart(node, expression(depth));
            for (int k = 0; k < MOST_ARGUMENTS && text.codeAt(at) == ' '; k++) {
                at++;
                tree.addPart(node, expression(depth));
            }
            need(')');
            return node;
        }

        private int function(int depth) {
            int node = tree.add(Tree.FUNCTION, 0, at);
            need('\\');
            need(' ');
            tree.addPart(node, parameters(depth));
            need(' ');
            tree.addPart(node, expression(depth));
            need(')');
            return node;
        }

        private int parameters(int depth) {
            int node = tree.add(Tree.PARAMETERS, 0, at);
            open(depth);
            if (text.codeAt(at) != ')') {
                parameter(node);
                for (int k = 1; k < MOST_LETTERS && text.codeAt(at) == ' '; k++) {
                    at++;
                    parameter(node);
                }
            }
            need(')');
            return node;
        }

        private void parameter(int list) {
            int letter = letterNotAmong(tree.firstPart(list));
            tree.addPart(list, tree.add(Tree.LETTER, letter, at));
            at++;
        }

        private int bound(int sign, int depth) {
            int kind = sign == ';' ? Tree.BOUND_IN_FRAME : Tree.BOUND;
            int node = tree.add(kind, 0, at);
            at++;
            need(' ');
            tree.addPart(node, expression(depth));
            need(' ');
            binding(node, depth);
            for (int k = 1; k < MOST_LETTERS && text.codeAt(at) == ' '; k++) {
                at++;
                binding(node, depth);
            }
            need(')');
            return node;
        }

        private void binding(int owner, int depth) {
            open(depth);
            int letter = letterNotAmong(tree.part(owner, 1));
            int node = tree.add(Tree.BINDING, letter, at);
            at++;
            need(' ');
            if (tree.kind(owner) == Tree.BOUND_IN_FRAME) {
                open(depth + 1);
                tree.addPart(node, function(depth + 2));
            } else {
                tree.addPart(node, expression(depth + 1));
            }
            need(')');
            tree.addPart(owner, node);
        }

        private int datum(int depth) {
            if (text.codeAt(at) != '(') {
                return atom();
            }
            int node = tree.add(Tree.LIST, 0, at);
            open(depth);
            if (text.codeAt(at) != ')') {
                tree.addPart(node, datum(depth + 1));
                for (int k = 1; k < Text.LONGEST && text.codeAt(at) == ' '; k++) {
                    at++;
                    tree.addPart(node, datum(depth + 1));
                }
            }
            need(')');
            return node;
        }

        private int atom() {
            int sign = text.codeAt(at);
            if (!isLetter(sign)) {
                return number();
            }
            int node = tree.add(Tree.LETTER, sign, at);
            at++;
            return node;
        }

        private int number() {
            int start = at;
            boolean below0 = text.codeAt(at) == '-';
            if (below0) {
                at++;
            }
            if (!isDigit(text.codeAt(at))) {
                fail();
            }
            int number = 0;
            for (int k = 0; k < MOST_DIGITS && isDigit(text.codeAt(at)); k++) {
                number = 10 * number + text.codeAt(at) - '0';
                at++;
            }
            return tree.add(Tree.NUMBER, below0 ? -number : number, start);
        }

        private int letterNotAmong(int node) {
            int letter = text.codeAt(at);
            if (!isLetter(letter) || tree.placeOf(letter, node) != NONE) {
                fail();
            }
            return letter;
        }

        private void open(int depth) {
            if (depth >= DEEPEST) {
                fail();
            }
            need('(');
        }

        private void need(int sign) {
            if (text.codeAt(at) != sign) {
                fail();
            }
            at++;
        }

        private static void fail() {
            throw new IllegalArgumentException("no program goes on like this");
        }

        private static boolean isLetter(int code) {
            return code >= 'a' && code <= 'z';
        }

        private static boolean isDigit(int code) {
            return code >= '0' && code <= '9';
        }
    }

    /** Code as it is laid down, apart from the store, which must stay as it is if the code is too long. */
    private static final class Code {
        private final long[] heads;
        private final long[] tails;
        private int cells;
        private int last;
        private boolean inside;

        Code(int size) {
            heads = new long[size];
            tails = new long[size];
        }

        void clear() {
            cells = 0;
            last = NONE;
            inside = false;
        }

        /** Cells that there is no room for are only counted. */
        void append(long value) {
            int cell = cells;
            cells++;
            if (cell < heads.length) {
                heads[cell] = value;
                tails[cell] = Value.NIL;
                link(Value.pair(cell));
            }
            last = cell;
            inside = false;
        }

        private void link(long pair) {
            if (last < 0 || last >= heads.length) {
                return;
            }
            if (inside) {
                heads[last] = pair;
            } else {
                tails[last] = pair;
            }
        }

        void instruction(int op) {
            append(Value.number(op));
        }

        /** Appends a pair whose head is the list of what is appended up to endList(pair). */
        int beginList() {
            append(Value.NIL);
            inside = true;
            return last;
        }

        void endList(int pair) {
            last = pair;
            inside = false;
        }

        int cells() {
            return cells;
        }

        long head(int cell) {
            return cell >= 0 && cell < heads.length ? heads[cell] : Value.NIL;
        }

        long tail(int cell) {
            return cell >= 0 && cell < tails.length ? tails[cell] : Value.NIL;
        }
    }

    /** Lays down the code of what was read. */
    private static final class Coder {
        private final Tree tree;
        private final Code code;

        // For each frame that is known, outermost first, the node of its first letter.
        private final int[] frames;
        private int known;
        private int firstUnknown;

        Coder(Tree tree, Code code) {
            this.tree = tree;
            this.code = code;
            frames = new int[DEEPEST];
        }

        /** The position of the first variable that is not known, or NONE. */
        int layDown() {
            code.clear();
            known = 0;
            firstUnknown = NONE;
            expression(Tree.ROOT, 0);
            code.instruction(Op.STOP);
            return firstUnknown;
        }

        private void expression(int node, int depth) {
            if (depth > DEEPEST) {
                return;
            }
            switch (tree.kind(node)) {
                case Tree.NUMBER: constant(node, depth); break;
                case Tree.QUOTE: constant(tree.firstPart(node), depth); break;
                case Tree.LETTER: variable(node); break;
                case Tree.OPERATION: operation(node, depth); break;
                case Tree.FUNCTION: function(node, depth); break;
                case Tree.CALL: call(node, depth); break;
                case Tree.BOUND: bound(node, depth); break;
                case Tree.BOUND_IN_FRAME: boundInFrame(node, depth); break;
                default: break;
            }
        }

        private void constant(int node, int depth) {
            code.instruction(Op.CONSTANT);
            datum(node, depth);
        }

        private void datum(int node, int depth) {
            if (depth > DEEPEST) {
                return;
            }
            int kind = tree.kind(node);
            if (kind == Tree.NUMBER) {
                code.append(Value.number(tree.value(node)));
            } else if (kind == Tree.LETTER) {
                code.append(Value.symbol(tree.value(node)));
            } else {
                int list = code.beginList();
                int part = tree.firstPart(node);
                for (int k = 0; k < Text.LONGEST && part != NONE; k++) {
                    datum(part, depth + 1);
                    part = tree.follower(part);
                }
                code.endList(list);
            }
        }

        private void variable(int node) {
            int place = placeOf(tree.value(node));
            if (place == NONE) {
                noteUnknown(tree.positionOf(node));
            }
            code.instruction(Op.VARIABLE);
            code.append(Value.number(place));
        }

        /** The code does not always come in the order of the text, of which the first place is asked. */
        private void noteUnknown(int position) {
            if (firstUnknown == NONE || position < firstUnknown) {
                firstUnknown = position;
            }
        }

        private int placeOf(int letter) {
            for (int frame = 0; frame < known; frame++) {
                int place = tree.placeOf(letter, frames[known - 1 - frame]);
                if (place != NONE) {
                    return FRAME_STRIDE * frame + place;
                }
            }
            return NONE;
        }

        private void enter(int firstLetter) {
            if (known < frames.length) {
                frames[known] = firstLetter;
                known++;
            }
        }

        private void leave() {
            if (known > 0) {
                known--;
            }
        }

        private void operation(int node, int depth) {
            int op = tree.value(node);
            if (op == Op.CHOOSE) {
                choice(node, depth);
                return;
            }
            int parts = tree.parts(node);
            for (int k = 0; k < parts; k++) {
                int index = op == Op.PAIR ? parts - 1 - k : k;
                expression(tree.part(node, index), depth + 1);
            }
            code.instruction(op);
        }

        private void choice(int node, int depth) {
            expression(tree.part(node, 0), depth + 1);
            code.instruction(Op.CHOOSE);
            list(tree.part(node, 1), Op.REJOIN, depth);
            list(tree.part(node, 2), Op.REJOIN, depth);
        }

        /** Appends the code of an expression with an instruction behind it, as a list of its own. */
        private void list(int node, int lastOp, int depth) {
            int list = code.beginList();
            expression(node, depth + 1);
            code.instruction(lastOp);
            code.endList(list);
        }

        private void function(int node, int depth) {
            body(tree.part(node, 1), tree.firstPart(tree.part(node, 0)), depth);
        }

        /** Makes a function of an expression that knows the letter of a node and those of its followers. */
        private void body(int node, int firstLetter, int depth) {
            code.instruction(Op.FUNCTION);
            enter(firstLetter);
            list(node, Op.RETURN, depth);
            leave();
        }

        private void call(int node, int depth) {
            beginArguments();
            for (int k = tree.parts(node) - 1; k >= 1; k--) {
                argument(tree.part(node, k), depth);
            }
            expression(tree.part(node, 0), depth + 1);
            code.instruction(Op.APPLY);
        }

        private void bound(int node, int depth) {
            boundArguments(node, depth);
            body(tree.part(node, 0), tree.part(node, 1), depth);
            code.instruction(Op.APPLY);
        }

        private void boundInFrame(int node, int depth) {
            code.instruction(Op.FRAME);
            enter(tree.part(node, 1));
            boundArguments(node, depth);
            leave();
            // The frame is there already when this function is made, and no other is put before it.
            body(tree.part(node, 0), tree.part(node, 1), depth);
            code.instruction(Op.APPLY_IN_FRAME);
        }

        private void boundArguments(int node, int depth) {
            beginArguments();
            for (int k = tree.parts(node) - 1; k >= 1; k--) {
                argument(tree.firstPart(tree.part(node, k)), depth);
            }
        }

        private void beginArguments() {
            code.instruction(Op.CONSTANT);
            code.append(Value.NIL);
        }

        private void argument(int node, int depth) {
            expression(node, depth + 1);
            code.instruction(Op.PAIR);
        }
    }

    /** The cells. The code has the first ones, so that all others are free when it is alone. */
    private static final class Store {
        private final int size;
        private final long[] heads;
        private final long[] tails;
        private final int[] free;
        private final boolean[] marked;
        private final int[] reached;
        private int freeCells;
        private int reachedCells;
        private int codeCells;

        Store(int size) {
            this.size = size;
            heads = new long[size];
            tails = new long[size];
            free = new int[size];
            marked = new boolean[size];
            reached = new int[size];
            for (int cell = 0; cell < size; cell++) {
                free[cell] = cell;
            }
            freeCells = size;
        }

        void load(Code code) {
            codeCells = Math.min(code.cells(), size);
            for (int cell = 0; cell < codeCells; cell++) {
                heads[cell] = code.head(cell);
                tails[cell] = code.tail(cell);
            }
            freeAllButCode();
        }

        void freeAllButCode() {
            freeCells = 0;
            for (int cell = codeCells; cell < size; cell++) {
                free[freeCells] = cell;
                freeCells++;
            }
        }

        long code() {
            return codeCells > 0 ? Value.pair(0) : Value.NIL;
        }

        int freeCells() {
            return freeCells;
        }

        int usedCells() {
            return size - freeCells;
        }

        long newPair(long head, long tail) {
            return Value.pair(newCell(head, tail));
        }

        long newFunction(long head, long tail) {
            return Value.function(newCell(head, tail));
        }

        /** Who calls this has seen to it that a cell is free. */
        private int newCell(long head, long tail) {
            if (freeCells <= 0) {
                return NONE;
            }
            freeCells--;
            int cell = free[freeCells];
            heads[cell] = head;
            tails[cell] = tail;
            return cell;
        }

        long head(long value) {
            int cell = Value.cell(value);
            return cell >= 0 && cell < size ? heads[cell] : Value.NIL;
        }

        long tail(long value) {
            int cell = Value.cell(value);
            return cell >= 0 && cell < size ? tails[cell] : Value.NIL;
        }

        void setHead(long value, long head) {
            int cell = Value.cell(value);
            if (cell >= 0 && cell < size) {
                heads[cell] = head;
            }
        }

        /** What is left of a list behind its first so many values. */
        long behind(long list, int values) {
            long rest = list;
            for (int k = 0; k < values && Value.isPair(rest); k++) {
                rest = tail(rest);
            }
            return rest;
        }

        int length(long list) {
            int length = 0;
            for (long rest = list; Value.isPair(rest) && length < size; rest = tail(rest)) {
                length++;
            }
            return length;
        }

        /** Marks what can be reached from the code and these four: how many cells that are. */
        int mark(long s, long e, long c, long d) {
            for (int cell = 0; cell < size; cell++) {
                marked[cell] = false;
            }
            reachedCells = 0;
            reach(s);
            reach(e);
            reach(c);
            reach(d);
            reach(code());
            for (int k = 0; k < reachedCells && k < size; k++) {
                reach(heads[reached[k]]);
                reach(tails[reached[k]]);
            }
            return reachedCells;
        }

        private void reach(long value) {
            int cell = Value.cell(value);
            if (cell >= 0 && cell < size && !marked[cell] && reachedCells < size) {
                marked[cell] = true;
                reached[reachedCells] = cell;
                reachedCells++;
            }
        }

        /** Makes free what mark did not reach: how many cells were used till then. */
        int freeUnmarked() {
            int before = freeCells;
            freeCells = 0;
            for (int cell = 0; cell < size; cell++) {
                if (!marked[cell]) {
                    free[freeCells] = cell;
                    freeCells++;
                }
            }
            return freeCells - before;
        }
    }

    /** The registers and the steps. */
    private static final class Machine {
        static final int IDLE = 0;
        static final int RUNNING = 1;
        static final int DONE = 2;
        static final int WRONG = 3;
        static final int OUT = 4;

        private final Store store;
        private final Display display;
        private long s;
        private long e;
        private long c;
        private long d;
        private int mode;
        private int collections;
        private int takenBack;
        private int steps;

        Machine(int size) {
            store = new Store(size);
            display = new Display(store);
            mode = IDLE;
        }

        void load(Code code) {
            store.load(code);
            setRegisters(Value.NIL);
            mode = IDLE;
        }

        boolean begin() {
            if (store.code() == Value.NIL) {
                return false;
            }
            store.freeAllButCode();
            setRegisters(store.code());
            collections = 0;
            takenBack = 0;
            steps = 0;
            mode = RUNNING;
            return true;
        }

        private void setRegisters(long control) {
            s = Value.NIL;
            e = Value.NIL;
            c = control;
            d = Value.NIL;
        }

        void step() {
            steps++;
            int op = instruction();
            int needs = Op.needs(op);
            if (store.freeCells() < needs) {
                collect();
            }
            if (store.freeCells() < needs) {
                mode = OUT;
            } else if (!act(op)) {
                mode = WRONG;
            }
        }

        private void collect() {
            store.mark(s, e, c, d);
            takenBack += store.freeUnmarked();
            collections++;
        }

        /** Whether everything is what it must be; if not, nothing is done. */
        private boolean act(int op) {
            switch (op) {
                case Op.CONSTANT: return constant();
                case Op.VARIABLE: return variable();
                case Op.FUNCTION: return function();
                case Op.APPLY: return apply();
                case Op.RETURN: return giveBack();
                case Op.FRAME: return frame();
                case Op.APPLY_IN_FRAME: return applyInFrame();
                case Op.CHOOSE: return choose();
                case Op.REJOIN: return rejoin();
                case Op.HEAD:
                case Op.TAIL: return partOfPair(op);
                case Op.NO_PAIR: return isNoPair();
                case Op.PAIR: return pair();
                case Op.SAME: return same();
                case Op.ADD:
                case Op.SUBTRACT:
                case Op.MULTIPLY:
                case Op.LESS: return calculate(op);
                case Op.STOP: return stop();
                default: return false;
            }
        }

        private boolean constant() {
            long operand = store.tail(c);
            s = store.newPair(store.head(operand), s);
            c = store.tail(operand);
            return true;
        }

        private boolean variable() {
            long operand = store.tail(c);
            int place = Value.content(store.head(operand));
            long frame = store.behind(e, place / FRAME_STRIDE);
            if (!Value.isPair(frame)) {
                return false;
            }
            long found = store.behind(store.head(frame), place % FRAME_STRIDE);
            if (!Value.isPair(found)) {
                return false;
            }
            s = store.newPair(store.head(found), s);
            c = store.tail(operand);
            return true;
        }

        private boolean function() {
            long operand = store.tail(c);
            s = store.newPair(store.newFunction(store.head(operand), e), s);
            c = store.tail(operand);
            return true;
        }

        private boolean apply() {
            long f = store.head(s);
            if (!Value.isFunction(f)) {
                return false;
            }
            long arguments = store.head(store.tail(s));
            save(e);
            e = store.newPair(arguments, store.tail(f));
            c = store.head(f);
            return true;
        }

        private boolean applyInFrame() {
            long f = store.head(s);
            if (!Value.isFunction(f)) {
                return false;
            }
            long arguments = store.head(store.tail(s));
            save(store.tail(e));
            e = store.tail(f);
            store.setHead(e, arguments);
            c = store.head(f);
            return true;
        }

        /** Puts on D what a return takes off, S being without the function and its arguments. */
        private void save(long environment) {
            long rest = store.tail(store.tail(s));
            d = store.newPair(store.tail(c), d);
            d = store.newPair(environment, d);
            d = store.newPair(rest, d);
            s = Value.NIL;
        }

        private boolean giveBack() {
            long x = store.head(s);
            long atE = store.tail(d);
            long atC = store.tail(atE);
            s = store.newPair(x, store.head(d));
            e = store.head(atE);
            c = store.head(atC);
            d = store.tail(atC);
            return true;
        }

        private boolean frame() {
            e = store.newPair(Value.NIL, e);
            c = store.tail(c);
            return true;
        }

        private boolean choose() {
            long x = store.head(s);
            if (!Value.isNumber(x)) {
                return false;
            }
            long ifNot0 = store.tail(c);
            long if0 = store.tail(ifNot0);
            s = store.tail(s);
            d = store.newPair(store.tail(if0), d);
            c = store.head(Value.content(x) != 0 ? ifNot0 : if0);
            return true;
        }

        private boolean rejoin() {
            c = store.head(d);
            d = store.tail(d);
            return true;
        }

        private boolean partOfPair(int op) {
            long x = store.head(s);
            if (!Value.isPair(x)) {
                return false;
            }
            replace(1, op == Op.HEAD ? store.head(x) : store.tail(x));
            return true;
        }

        private boolean isNoPair() {
            replace(1, Value.number(Value.isPair(store.head(s)) ? 0 : 1));
            return true;
        }

        private boolean pair() {
            long x = store.head(s);
            long y = store.head(store.tail(s));
            replace(2, store.newPair(x, y));
            return true;
        }

        private boolean same() {
            long y = store.head(s);
            long x = store.head(store.tail(s));
            // Cells are never the same, not even one and itself.
            boolean isSame = x == y && Value.cell(x) == NONE;
            replace(2, Value.number(isSame ? 1 : 0));
            return true;
        }

        private boolean calculate(int op) {
            long y = store.head(s);
            long x = store.head(store.tail(s));
            if (!Value.isNumber(x) || !Value.isNumber(y)) {
                return false;
            }
            replace(2, Value.number(calculated(op, Value.content(x), Value.content(y))));
            return true;
        }

        private static int calculated(int op, int x, int y) {
            switch (op) {
                case Op.ADD: return x + y;
                case Op.SUBTRACT: return x - y;
                case Op.MULTIPLY: return x * y;
                default: return x < y ? 1 : 0;
            }
        }

        /** Takes so many values off S and puts another on it, by an instruction to which nothing belongs. */
        private void replace(int values, long value) {
            s = store.newPair(value, store.behind(s, values));
            c = store.tail(c);
        }

        private boolean stop() {
            mode = DONE;
            display.show(store.head(s));
            return true;
        }

        int instruction() {
            return Value.content(store.head(c));
        }

        int mode() {
            return mode;
        }

        int usedCells() {
            return store.usedCells();
        }

        int reachableCells() {
            return store.mark(s, e, c, d);
        }

        int collections() {
            return collections;
        }

        int takenBack() {
            return takenBack;
        }

        int steps() {
            return steps;
        }

        int stackLength() {
            return store.length(s);
        }

        int dumpLength() {
            return store.length(d);
        }

        int shownCode(int k) {
            return display.codeAt(k);
        }
    }

    /** How a result is shown. */
    private static final class Display {
        private static final int LONGEST = 120;

        private final Store store;
        private final StringBuilder line;

        // For each list that stands open, outermost first, what of it is not yet shown.
        private final long[] rests;
        private int open;

        Display(Store store) {
            this.store = store;
            line = new StringBuilder();
            rests = new long[LONGEST];
        }

        void show(long result) {
            line.setLength(0);
            open = 0;
            long value = result;
            // Each turn shows a character at least, so that no result needs more turns.
            for (int turn = 0; turn < LONGEST && line.length() < LONGEST; turn++) {
                if (Value.isPair(value) && open < LONGEST) {
                    line.append('(');
                    rests[open] = store.tail(value);
                    open++;
                    value = store.head(value);
                } else {
                    showAtom(value);
                    endLists();
                    if (open == 0) {
                        return;
                    }
                    line.append(' ');
                    value = store.head(rests[open - 1]);
                    rests[open - 1] = store.tail(rests[open - 1]);
                }
            }
        }

        /** Ends the innermost lists, up to one that has more parts. */
        private void endLists() {
            while (open > 0 && !Value.isPair(rests[open - 1]) && line.length() < LONGEST) {
                open--;
                if (rests[open] != Value.NIL) {
                    line.append(" . ");
                    showAtom(rests[open]);
                }
                line.append(')');
            }
        }

        private void showAtom(long value) {
            if (Value.isNumber(value)) {
                line.append(Value.content(value));
            } else if (Value.isSymbol(value)) {
                line.append((char) Value.content(value));
            } else if (Value.isFunction(value)) {
                line.append('#');
            } else {
                line.append("()");
            }
        }

        int codeAt(int k) {
            return k >= 0 && k < LONGEST && k < line.length() ? line.charAt(k) : NONE;
        }
    }
}
