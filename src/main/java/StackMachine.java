/**
 * A stack machine with structured code: functions are written instruction by instruction and
 * checked as they come, flattened when they are whole, and run in pieces of any size.
 */
public final class StackMachine {
    private static final int MOST_FUNCTIONS = 40;
    private static final int MOST_INSTRUCTIONS = 1500;
    private static final int MOST_IN_SIGNATURE = 8;
    private static final int MOST_IN_LABEL = 4;
    private static final int MOST_BRANCHES = 20;
    private static final int MOST_FRAMES = 30;
    private static final int MOST_VALUES = 220;
    private static final int MOST_STEPS = 2000;
    private static final int TABLE_SIZE = 30;
    private static final int GLOBALS = 8;
    private static final int PAGE_SIZE = 64;
    private static final int MOST_PAGES = 6;
    private static final long LOW_32 = 0xFFFFFFFFL;

    private static final int TRAP = 0;
    private static final int NOTHING = 1;
    private static final int BLOCK = 2;
    private static final int LOOP = 3;
    private static final int IF = 4;
    private static final int ELSE = 5;
    private static final int ENTRY = 6;
    private static final int END = 11;
    private static final int BRANCH = 12;
    private static final int BRANCH_IF = 13;
    private static final int TABLE = 14;
    private static final int RETURN = 15;
    private static final int CALL = 16;
    private static final int CALL_BY_TABLE = 17;
    private static final int DISCARD = 26;
    private static final int SELECT = 27;
    private static final int LOCAL_GET = 32;
    private static final int LOCAL_SET = 33;
    private static final int LOCAL_TEE = 34;
    private static final int GLOBAL_GET = 35;
    private static final int GLOBAL_SET = 36;
    private static final int FIRST_LOAD = 40;
    private static final int FIRST_STORE = 54;
    private static final int LAST_STORE = 62;
    private static final int PAGES = 63;
    private static final int GROW = 64;
    private static final int CONSTANT_32 = 65;
    private static final int CONSTANT_64 = 66;
    private static final int IS_ZERO_32 = 69;
    private static final int EQUAL_32 = 70;
    private static final int UNEQUAL_32 = 71;
    private static final int LESS_32 = 72;
    private static final int LESS_UNSIGNED_32 = 73;
    private static final int IS_ZERO_64 = 80;
    private static final int EQUAL_64 = 81;
    private static final int LESS_64 = 83;
    private static final int ADD_32 = 106;
    private static final int SUBTRACT_32 = 107;
    private static final int MULTIPLY_32 = 108;
    private static final int DIVIDE_UNSIGNED_32 = 110;
    private static final int AND_32 = 113;
    private static final int SHIFT_LEFT_32 = 116;
    private static final int ADD_64 = 124;
    private static final int SUBTRACT_64 = 125;
    private static final int MULTIPLY_64 = 126;
    private static final int WRAP = 167;
    private static final int EXTEND = 173;

    private static final int TRAP_REACHED = 1;
    private static final int TRAP_MEMORY = 4;
    private static final int TRAP_NO_ENTRY = 6;
    private static final int TRAP_EMPTY_ENTRY = 7;
    private static final int TRAP_OTHER_SIGNATURE = 8;
    private static final int TRAP_DIVISION = 11;

    private static final int IDLE = 0;
    private static final int GOING = 1;
    private static final int ENDED = 2;
    private static final int TRAPPED = 3;
    private static final int EXHAUSTED = 4;

    private final Program program;
    private final Machine machine;
    private final long[] arguments;
    private int argumentCount;
    /** The function that is written, null when none is. */
    private Draft draft;

    public StackMachine() {
        program = new Program();
        machine = new Machine();
        arguments = new long[MOST_IN_SIGNATURE];
    }

    public int function(int parameters, int results, int locals) {
        boolean asSaid = isWithin(parameters, MOST_IN_SIGNATURE)
                && isWithin(results, MOST_IN_SIGNATURE)
                && isWithin(locals, MOST_IN_SIGNATURE);
        if (draft != null || !asSaid) return -1;
        Function begun = new Function(parameters, results, locals);
        if (!program.append(begun)) return -1;
        draft = new Draft(program, begun);
        return program.count - 1;
    }

    public int code(int operation, int a, int b) {
        if (draft == null || instructionsInAll() >= MOST_INSTRUCTIONS) return -1;
        if (!draft.write(operation, a, b)) return -1;
        if (draft.isFinished()) keepDraft();
        return instructionsInAll();
    }

    public boolean drop() {
        if (draft == null) return false;
        program.removeLast();
        draft = null;
        return true;
    }

    public boolean entry(int k, int function) {
        if (function == -1) return machine.setTable(k, null);
        Function whole = program.findWhole(function);
        return whole != null && machine.setTable(k, whole);
    }

    public int argument(long v) {
        if (argumentCount >= arguments.length) return -1;
        arguments[argumentCount] = v;
        argumentCount++;
        return argumentCount;
    }

    public boolean call(int function) {
        Function called = program.findWhole(function);
        if (called == null || called.parameters != argumentCount) return false;
        machine.begin(called, arguments);
        argumentCount = 0;
        return true;
    }

    public int run(int n) {
        return isWithin(n, MOST_STEPS) ? machine.advance(n) : -1;
    }

    public int state(int what) {
        switch (what) {
            case 0: return machine.condition;
            case 1: return machine.latestTrap;
            case 2: return machine.isGoing() ? machine.depth : 0;
            case 3: return machine.isGoing() ? machine.values.top : 0;
            case 4: return machine.steps;
            case 5: return program.count;
            case 6: return instructionsInAll();
            case 7: return draft == null ? 0 : draft.labels;
            case 8: return draft == null ? 0 : draft.ownOperands();
            case 9: return draft != null && draft.isDead() ? 1 : 0;
            case 10: return machine.memory.pages;
            default: return -1;
        }
    }

    public long result(int k) {
        return machine.resultAt(k);
    }

    public long global(int k) {
        return machine.globalAt(k);
    }

    public int memory(int address) {
        return machine.memory.byteAt(address);
    }

    public int look(int function, int what) {
        Function whole = program.findWhole(function);
        if (whole == null) return -1;
        switch (what) {
            case 0: return whole.parameters;
            case 1: return whole.results;
            case 2: return whole.furtherLocals;
            case 3: return whole.mostOperands;
            default: return -1;
        }
    }

    private int instructionsInAll() {
        return program.instructions + (draft == null ? 0 : draft.written);
    }

    private void keepDraft() {
        program.instructions += draft.written;
        draft = null;
    }

    private static boolean isWithin(int number, int most) {
        return number >= 0 && number <= most;
    }

    /** The functions there are, the one that is written too. */
    private static final class Program {
        final Function[] functions = new Function[MOST_FUNCTIONS];
        int count;
        /** Of the whole functions alone. */
        int instructions;

        boolean append(Function begun) {
            if (count >= functions.length) return false;
            functions[count] = begun;
            count++;
            return true;
        }

        void removeLast() {
            if (count <= 0 || count > functions.length) return;
            count--;
            functions[count] = null;
        }

        Function find(int number) {
            if (number < 0 || number >= count || number >= functions.length) return null;
            return functions[number];
        }

        Function findWhole(int number) {
            Function found = find(number);
            return found != null && found.isWhole ? found : null;
        }
    }

    private static final class Function {
        final int parameters;
        final int results;
        final int furtherLocals;
        /** The parameters and the further ones. */
        final int locals;
        boolean isWhole;
        int mostOperands;
        /** The first step; null when the function ends without any. */
        Instruction first;

        Function(int parameters, int results, int furtherLocals) {
            this.parameters = parameters;
            this.results = results;
            this.furtherLocals = furtherLocals;
            locals = parameters + furtherLocals;
        }

        /** How many values a frame of it asks for. */
        int room() {
            return locals + mostOperands;
        }

        boolean hasSignature(int asParameters, int asResults) {
            return parameters == asParameters && results == asResults;
        }
    }

    private static final class Instruction {
        final int operation;
        final int a;
        final int b;
        /** What was written ahead of it; null at the function's beginning. */
        final Instruction previous;
        /** The label that it begins, turns, ends or goes to; null for the others. */
        Label label;
        /** The function that it calls; null for the others. */
        Function callee;
        /** The step that follows when it doesn't branch; null is the function's end. */
        Instruction next;
        /** The step that a branch goes to; null is the function's end. */
        Instruction goal;
        /** How many operands a branch leaves, and how many stay below them. */
        int kept;
        int height;

        Instruction(int operation, int a, int b, Instruction previous) {
            this.operation = operation;
            this.a = a;
            this.b = b;
            this.previous = previous;
        }

        /** This instruction if it is a step, or else the step that is reached through it. */
        Instruction settled() {
            switch (operation) {
                case BLOCK:
                case LOOP:
                case END:
                    return next;
                case ELSE:
                    return label == null ? null : label.stepBehind();
                default:
                    return this;
            }
        }

        void aim() {
            if (label == null) return;
            goal = operation == IF ? label.stepOtherwise() : label.stepOfBranch();
            kept = label.wanted();
            height = label.height;
        }
    }

    private static final class Label {
        /** BLOCK, LOOP or IF; BLOCK for that of the function itself. */
        final int kind;
        final int parameters;
        final int results;
        final int height;
        /** The label round it; null for that of the function itself. */
        final Label outer;
        boolean isDead;
        Instruction start;
        Instruction otherwise;
        Instruction end;

        Label(int kind, int parameters, int results, int height, Label outer) {
            this.kind = kind;
            this.parameters = parameters;
            this.results = results;
            this.height = height;
            this.outer = outer;
        }

        int wanted() {
            return kind == LOOP ? parameters : results;
        }

        boolean mayTurn() {
            return kind == IF && otherwise == null;
        }

        Instruction stepBehind() {
            return end == null ? null : end.next;
        }

        Instruction stepOtherwise() {
            return otherwise == null ? stepBehind() : otherwise.next;
        }

        Instruction stepOfBranch() {
            return kind == LOOP && start != null ? start.next : stepBehind();
        }
    }

    /** A function that is written: it checks each instruction, and flattens the whole. */
    private static final class Draft {
        private final Program program;
        private final Function function;
        private Instruction last;
        /** The innermost label; null when the function is finished. */
        private Label label;
        /** Of all labels together. */
        private int operands;
        private int entriesDue;
        private int entriesWant;
        int written;
        int labels;

        Draft(Program program, Function function) {
            this.program = program;
            this.function = function;
            label = new Label(BLOCK, 0, function.results, 0, null);
            labels = 1;
        }

        boolean isFinished() {
            return label == null;
        }

        boolean isDead() {
            return label != null && label.isDead;
        }

        int ownOperands() {
            return label == null ? 0 : operands - label.height;
        }

        /** False, with nothing done, when the instruction is not as the document says. */
        boolean write(int operation, int a, int b) {
            if (label == null || entriesDue > 0 && operation != ENTRY) return false;
            switch (operation) {
                case TRAP: return writeTrap(a, b);
                case BLOCK:
                case LOOP:
                case IF: return writeStart(operation, a, b);
                case ELSE: return writeElse(a, b);
                case ENTRY: return writeEntry(a, b);
                case END: return writeEnd(a, b);
                case BRANCH: return writeBranch(BRANCH, a, b, labelAt(a));
                case BRANCH_IF: return writeBranchIf(a, b);
                case TABLE: return writeTable(a, b);
                case RETURN: return writeBranch(RETURN, a, b, labelAt(labels - 1));
                case CALL: return writeCall(a, b);
                case CALL_BY_TABLE: return writeCallByTable(a, b);
                default: return writePlain(operation, a, b);
            }
        }

        private boolean writeTrap(int a, int b) {
            append(TRAP, a, b);
            die();
            return true;
        }

        private boolean writeStart(int operation, int a, int b) {
            if (!isWithin(a, MOST_IN_LABEL) || !isWithin(b, MOST_IN_LABEL)) return false;
            int taken = operation == IF ? a + 1 : a;
            if (!has(taken)) return false;
            take(taken);
            Label begun = new Label(operation, a, b, operands, label);
            begun.start = append(operation, a, b);
            begun.start.label = begun;
            label = begun;
            labels++;
            put(a);
            return true;
        }

        private boolean writeElse(int a, int b) {
            if (!label.mayTurn() || !hasJustResults()) return false;
            label.otherwise = append(ELSE, a, b);
            label.otherwise.label = label;
            label.isDead = false;
            operands = label.height;
            put(label.parameters);
            return true;
        }

        private boolean writeEnd(int a, int b) {
            if (!hasJustResults()) return false;
            // Without ELSE the parameters themselves go on as the results.
            if (label.mayTurn() && label.parameters != label.results) return false;
            Label over = label;
            over.end = append(END, a, b);
            operands = over.height;
            label = over.outer;
            labels--;
            // Behind the function's own label there is none that could have its results.
            if (label == null) flatten();
            else put(over.results);
            return true;
        }

        private boolean writeBranch(int operation, int a, int b, Label to) {
            if (to == null || !has(to.wanted())) return false;
            append(operation, a, b).label = to;
            die();
            return true;
        }

        private boolean writeBranchIf(int a, int b) {
            Label to = labelAt(a);
            if (to == null || !has(to.wanted() + 1)) return false;
            append(BRANCH_IF, a, b).label = to;
            take(to.wanted() + 1);
            put(to.wanted());
            return true;
        }

        private boolean writeTable(int a, int b) {
            if (!isWithin(a, MOST_BRANCHES) || !has(1)) return false;
            append(TABLE, a, b);
            take(1);
            entriesDue = a + 1;
            entriesWant = -1;
            return true;
        }

        private boolean writeEntry(int a, int b) {
            Label to = labelAt(a);
            if (entriesDue <= 0 || to == null || !has(to.wanted())) return false;
            if (entriesWant >= 0 && to.wanted() != entriesWant) return false;
            append(ENTRY, a, b).label = to;
            entriesWant = to.wanted();
            entriesDue--;
            if (entriesDue == 0) die();
            return true;
        }

        private boolean writeCall(int a, int b) {
            Function callee = program.find(a);
            if (callee == null || !has(callee.parameters)) return false;
            append(CALL, a, b).callee = callee;
            take(callee.parameters);
            put(callee.results);
            return true;
        }

        private boolean writeCallByTable(int a, int b) {
            if (!isWithin(a, MOST_IN_SIGNATURE) || !isWithin(b, MOST_IN_SIGNATURE)) return false;
            if (!has(a + 1)) return false;
            append(CALL_BY_TABLE, a, b);
            take(a + 1);
            put(b);
            return true;
        }

        private boolean writePlain(int operation, int a, int b) {
            int taken = Operations.takenBy(operation);
            if (taken < 0 || !has(taken) || !isInPlace(operation, a)) return false;
            append(operation, a, b);
            take(taken);
            put(Operations.putBy(operation));
            return true;
        }

        /** Whether a names a local or a global, for an operation on these. */
        private boolean isInPlace(int operation, int a) {
            switch (operation) {
                case LOCAL_GET:
                case LOCAL_SET:
                case LOCAL_TEE:
                    return isWithin(a, function.locals - 1);
                case GLOBAL_GET:
                case GLOBAL_SET:
                    return isWithin(a, GLOBALS - 1);
                default:
                    return true;
            }
        }

        private Instruction append(int operation, int a, int b) {
            last = new Instruction(operation, a, b, last);
            written++;
            return last;
        }

        private Label labelAt(int number) {
            if (number < 0 || number >= labels) return null;
            Label found = label;
            for (int i = 0; i < number && found != null; i++) found = found.outer;
            return found;
        }

        private boolean has(int number) {
            return label.isDead || ownOperands() >= number;
        }

        private boolean hasJustResults() {
            int own = ownOperands();
            return own == label.results || label.isDead && own < label.results;
        }

        private void take(int number) {
            operands = Math.max(label.height, operands - number);
        }

        private void put(int number) {
            operands += number;
            function.mostOperands = Math.max(function.mostOperands, operands);
        }

        private void die() {
            operands = label.height;
            label.isDead = true;
        }

        private void flatten() {
            Instruction behind = null;
            for (Instruction x = last; x != null; x = x.previous) {
                x.next = behind == null ? null : behind.settled();
                behind = x;
            }
            // A loop's first step is known only now, so branches are aimed in a second pass.
            for (Instruction x = last; x != null; x = x.previous) x.aim();
            function.first = behind == null ? null : behind.settled();
            function.isWhole = true;
        }
    }

    /** What the operations ask for and answer, apart from any machine. */
    private static final class Operations {
        /** How many operands a plain operation takes; -1 when there is no such operation. */
        static int takenBy(int operation) {
            if (operation >= FIRST_LOAD && operation < FIRST_STORE) return 1;
            if (operation >= FIRST_STORE && operation <= LAST_STORE) return 2;
            switch (operation) {
                case NOTHING: case LOCAL_GET: case GLOBAL_GET: case PAGES:
                case CONSTANT_32: case CONSTANT_64:
                    return 0;
                case DISCARD: case LOCAL_SET: case LOCAL_TEE: case GLOBAL_SET: case GROW:
                case IS_ZERO_32: case IS_ZERO_64: case WRAP: case EXTEND:
                    return 1;
                case EQUAL_32: case UNEQUAL_32: case LESS_32: case LESS_UNSIGNED_32:
                case ADD_32: case SUBTRACT_32: case MULTIPLY_32: case DIVIDE_UNSIGNED_32:
                case AND_32: case SHIFT_LEFT_32:
                case EQUAL_64: case LESS_64: case ADD_64: case SUBTRACT_64: case MULTIPLY_64:
                    return 2;
                case SELECT:
                    return 3;
                default:
                    return -1;
            }
        }

        static int putBy(int operation) {
            if (operation >= FIRST_STORE && operation <= LAST_STORE) return 0;
            switch (operation) {
                case NOTHING: case DISCARD: case LOCAL_SET: case GLOBAL_SET:
                    return 0;
                default:
                    return 1;
            }
        }

        static boolean isOf64(int operation) {
            return operation == EQUAL_64 || operation == LESS_64
                    || operation >= ADD_64 && operation <= MULTIPLY_64;
        }

        static boolean isTrue(long value) {
            return (int) value != 0;
        }

        static int of32(int operation, int x, int y) {
            switch (operation) {
                case EQUAL_32: return x == y ? 1 : 0;
                case UNEQUAL_32: return x != y ? 1 : 0;
                case LESS_32: return x < y ? 1 : 0;
                case LESS_UNSIGNED_32: return (x & LOW_32) < (y & LOW_32) ? 1 : 0;
                case ADD_32: return x + y;
                case SUBTRACT_32: return x - y;
                case MULTIPLY_32: return x * y;
                case AND_32: return x & y;
                case SHIFT_LEFT_32: return x << (y & 31);
                default: return 0;
            }
        }

        static long of64(int operation, long x, long y) {
            switch (operation) {
                case EQUAL_64: return x == y ? 1 : 0;
                case LESS_64: return x < y ? 1 : 0;
                case ADD_64: return x + y;
                case SUBTRACT_64: return x - y;
                case MULTIPLY_64: return x * y;
                default: return 0;
            }
        }

        /** How many bytes a load or a store moves. */
        static int sizeOf(int operation) {
            switch (operation) {
                case 44: case 45: case 48: case 49: case 58: case 60:
                    return 1;
                case 46: case 47: case 50: case 51: case 59: case 61:
                    return 2;
                case 41: case 43: case 55: case 57:
                    return 8;
                default:
                    return 4;
            }
        }

        /** What a load puts for the bytes that it found. */
        static long widened(int operation, long found) {
            switch (operation) {
                case 44: return (byte) found & LOW_32;
                case 46: return (short) found & LOW_32;
                case 48: return (byte) found;
                case 50: return (short) found;
                case 52: return (int) found;
                default: return found;
            }
        }
    }

    private static final class Memory {
        private final byte[] bytes = new byte[MOST_PAGES * PAGE_SIZE];
        int pages = 1;

        int byteAt(int address) {
            return holds(address, 1) ? bytes[address] & 0xFF : -1;
        }

        boolean holds(long address, int size) {
            long length = Math.min((long) pages * PAGE_SIZE, bytes.length);
            return address >= 0 && size >= 0 && address + size <= length;
        }

        /** The bytes there, the lowest first, without sign; 0 beyond the end. */
        long load(long address, int size) {
            if (!holds(address, size)) return 0;
            int start = (int) address;
            long value = 0;
            for (int i = size - 1; i >= 0; i--) value = value << 8 | bytes[start + i] & 0xFF;
            return value;
        }

        void store(long address, int size, long value) {
            if (!holds(address, size)) return;
            int start = (int) address;
            for (int i = 0; i < size; i++) bytes[start + i] = (byte) (value >>> 8 * i);
        }

        /** How many pages it had, or 32 bits of 1 when there can't be so many more. */
        long grow(long more) {
            if (more < 0 || more > MOST_PAGES - pages) return LOW_32;
            int before = pages;
            pages += (int) more;
            return before;
        }
    }

    /** The locals and operands of all frames, those of the innermost one on top. */
    private static final class Values {
        private final long[] row = new long[MOST_VALUES];
        int top;

        long at(int index) {
            return index >= 0 && index < row.length ? row[index] : 0;
        }

        void set(int index, long value) {
            if (index >= 0 && index < row.length) row[index] = value;
        }

        void push(long value) {
            if (top < 0 || top >= row.length) return;
            row[top] = value;
            top++;
        }

        long pop() {
            if (top <= 0) return 0;
            top--;
            return at(top);
        }

        /** Leaves the uppermost ones alone above what is below base. */
        void keep(int number, int base) {
            int from = top - number;
            for (int i = 0; i < number; i++) set(base + i, at(from + i));
            top = base + number;
        }
    }

    private static final class Frame {
        Function function;
        /** Where its locals begin among the values. */
        int base;
        /** The step to be done next; null at the function's end. */
        Instruction at;

        void enter(Function entered, int localsFrom) {
            function = entered;
            base = localsFrom;
            at = entered.first;
        }

        int operandsFrom() {
            return function == null ? base : base + function.locals;
        }
    }

    /** What is run: the frames, and all that stays from call to call. */
    private static final class Machine {
        private final Function[] table = new Function[TABLE_SIZE];
        private final long[] globals = new long[GLOBALS];
        private final Frame[] frames = new Frame[MOST_FRAMES];
        final Memory memory = new Memory();
        final Values values = new Values();
        /** How many values the frames ask for at most. */
        private int asked;
        int depth;
        int condition = IDLE;
        int latestTrap;
        int steps;

        Machine() {
            for (int i = 0; i < frames.length; i++) frames[i] = new Frame();
        }

        boolean isGoing() {
            return condition == GOING;
        }

        boolean setTable(int k, Function chosen) {
            if (k < 0 || k >= table.length) return false;
            table[k] = chosen;
            return true;
        }

        long globalAt(int k) {
            return k >= 0 && k < globals.length ? globals[k] : 0;
        }

        /** The results stay among the values, alone, until the next call. */
        long resultAt(int k) {
            return condition == ENDED && k >= 0 && k < values.top ? values.at(k) : 0;
        }

        void begin(Function called, long[] arguments) {
            depth = 0;
            asked = 0;
            steps = 0;
            values.top = 0;
            condition = GOING;
            int given = Math.min(called.parameters, arguments.length);
            for (int i = 0; i < given; i++) values.push(arguments[i]);
            enter(called);
            leaveWhatIsOver();
        }

        int advance(int most) {
            int done = 0;
            for (int i = 0; i < most && isGoing(); i++) {
                step();
                done++;
            }
            steps += done;
            return done;
        }

        private void step() {
            Frame frame = innermost();
            if (frame == null || frame.at == null) return;
            Instruction x = frame.at;
            frame.at = x.next;
            if (x.operation < DISCARD) control(frame, x);
            else if (x.operation < FIRST_LOAD) move(frame, x);
            else if (x.operation < FIRST_STORE) load(x);
            else if (x.operation <= LAST_STORE) store(x);
            else if (x.operation < IS_ZERO_32) provide(x);
            else if (Operations.takenBy(x.operation) == 2) computeOfTwo(x.operation);
            else computeOfOne(x.operation);
            leaveWhatIsOver();
        }

        /** Null when there is no frame. */
        private Frame innermost() {
            return depth > 0 && depth <= frames.length ? frames[depth - 1] : null;
        }

        private void enter(Function callee) {
            boolean fits = callee != null && depth >= 0 && depth < frames.length
                    && asked + callee.room() <= MOST_VALUES;
            if (!fits) {
                condition = EXHAUSTED;
                return;
            }
            // The caller's operands become the first locals where they are.
            frames[depth].enter(callee, values.top - callee.parameters);
            for (int i = 0; i < callee.furtherLocals; i++) values.push(0);
            asked += callee.room();
            depth++;
        }

        /** Ends are no steps: each frame at its function's end goes with the step ahead. */
        private void leaveWhatIsOver() {
            for (int i = 0; i < MOST_FRAMES && isGoing(); i++) {
                Frame frame = innermost();
                if (frame == null || frame.at != null || frame.function == null) return;
                values.keep(frame.function.results, frame.base);
                asked -= frame.function.room();
                depth--;
                if (depth == 0) condition = ENDED;
            }
        }

        private void trap(int number) {
            condition = TRAPPED;
            latestTrap = number;
        }

        private void control(Frame frame, Instruction x) {
            switch (x.operation) {
                case TRAP:
                    trap(TRAP_REACHED);
                    break;
                case IF:
                    if (!Operations.isTrue(values.pop())) frame.at = x.goal;
                    break;
                case BRANCH:
                case RETURN:
                    branch(frame, x);
                    break;
                case BRANCH_IF:
                    if (Operations.isTrue(values.pop())) branch(frame, x);
                    break;
                case TABLE:
                    branch(frame, chosenEntry(x));
                    break;
                case CALL:
                    enter(x.callee);
                    break;
                case CALL_BY_TABLE:
                    enterByTable(x);
                    break;
                default:
                    break;
            }
        }

        private void branch(Frame frame, Instruction x) {
            values.keep(x.kept, frame.operandsFrom() + x.height);
            frame.at = x.goal;
        }

        /** The entries stand behind their table, one behind the other. */
        private Instruction chosenEntry(Instruction x) {
            long number = values.pop() & LOW_32;
            Instruction chosen = x.next == null ? x : x.next;
            for (int i = 0; i < x.a && i < number && chosen.next != null; i++) chosen = chosen.next;
            return chosen;
        }

        private void enterByTable(Instruction x) {
            long index = values.pop() & LOW_32;
            if (index >= table.length) {
                trap(TRAP_NO_ENTRY);
                return;
            }
            Function callee = table[(int) index];
            if (callee == null) trap(TRAP_EMPTY_ENTRY);
            else if (!callee.hasSignature(x.a, x.b)) trap(TRAP_OTHER_SIGNATURE);
            else enter(callee);
        }

        private void move(Frame frame, Instruction x) {
            switch (x.operation) {
                case DISCARD:
                    values.pop();
                    break;
                case SELECT:
                    select();
                    break;
                case LOCAL_GET:
                    values.push(values.at(frame.base + x.a));
                    break;
                case LOCAL_SET:
                    values.set(frame.base + x.a, values.pop());
                    break;
                case LOCAL_TEE:
                    values.set(frame.base + x.a, values.at(values.top - 1));
                    break;
                case GLOBAL_GET:
                    values.push(globalAt(x.a));
                    break;
                case GLOBAL_SET:
                    setGlobal(x.a, values.pop());
                    break;
                default:
                    break;
            }
        }

        private void select() {
            boolean first = Operations.isTrue(values.pop());
            long y = values.pop();
            long x = values.pop();
            values.push(first ? x : y);
        }

        private void setGlobal(int k, long value) {
            if (k >= 0 && k < globals.length) globals[k] = value;
        }

        private void load(Instruction x) {
            long address = (values.pop() & LOW_32) + (x.a & LOW_32);
            int size = Operations.sizeOf(x.operation);
            if (!memory.holds(address, size)) {
                trap(TRAP_MEMORY);
                return;
            }
            values.push(Operations.widened(x.operation, memory.load(address, size)));
        }

        private void store(Instruction x) {
            long value = values.pop();
            long address = (values.pop() & LOW_32) + (x.a & LOW_32);
            int size = Operations.sizeOf(x.operation);
            if (!memory.holds(address, size)) {
                trap(TRAP_MEMORY);
                return;
            }
            memory.store(address, size, value);
        }

        private void provide(Instruction x) {
            switch (x.operation) {
                case PAGES:
                    values.push(memory.pages);
                    break;
                case GROW:
                    values.push(memory.grow(values.pop() & LOW_32));
                    break;
                case CONSTANT_32:
                    values.push(x.a & LOW_32);
                    break;
                case CONSTANT_64:
                    values.push((long) x.b << 32 | x.a & LOW_32);
                    break;
                default:
                    break;
            }
        }

        private void computeOfOne(int operation) {
            long x = values.pop();
            switch (operation) {
                case IS_ZERO_32: values.push(Operations.isTrue(x) ? 0 : 1); break;
                case IS_ZERO_64: values.push(x == 0 ? 1 : 0); break;
                case WRAP:
                case EXTEND: values.push(x & LOW_32); break;
                default: break;
            }
        }

        private void computeOfTwo(int operation) {
            long y = values.pop();
            long x = values.pop();
            if (operation == DIVIDE_UNSIGNED_32) divide(x & LOW_32, y & LOW_32);
            else if (Operations.isOf64(operation)) values.push(Operations.of64(operation, x, y));
            else values.push(Operations.of32(operation, (int) x, (int) y) & LOW_32);
        }

        private void divide(long x, long y) {
            if (y == 0) trap(TRAP_DIVISION);
            else values.push(x / y);
        }
    }
}
