/** A language of words over a stack, as the document DOC.md promises it. */
public final class WordSmith {
    private static final int MAX_TYPED = 120;
    private static final int LOWEST_CHARACTER = 32;
    private static final int HIGHEST_CHARACTER = 126;
    private static final int MAX_NAME = 9;
    private static final int MAX_DIGITS = 6;
    private static final int MAX_STACK = 24;
    private static final int MAX_CALLS = 16;
    private static final int MAX_LOOPS = 4;
    private static final int MAX_MADE = 24;
    private static final int MAX_ITEMS = 60;
    private static final int MAX_OPEN = 8;
    private static final int MAX_FUEL = 600;
    private static final int MAX_OUTPUT = 40;
    private static final int FIRST_MADE = 100;

    private static final int CELLS = 96;
    private static final int MAX_HERE = 64;
    private static final int BUFFERS = 2;
    private static final int[] BUFFER_ADDRESSES = {64, 80};
    private static final int BLOCKS = 4;
    private static final int BLOCK_SIZE = 16;

    private static final int NONE = -1;

    private static final int NO_ERROR = 0;
    private static final int UNKNOWN = 1;
    private static final int TOO_LITTLE = 2;
    private static final int NO_ROOM = 3;
    private static final int DIVISION_BY_ZERO = 4;
    private static final int NO_SUCH_NUMBER = 5;
    private static final int OUT_OF_PLACE = 6;
    private static final int NO_FUEL = 7;
    private static final int NO_LOOP = 8;

    private static final int ITEM_NUMBER = 0;
    private static final int ITEM_WORD = 1;
    private static final int ITEM_JUMP = 2;
    private static final int ITEM_JUMP_IF_ZERO = 3;
    private static final int ITEM_DO = 4;
    private static final int ITEM_LOOP = 5;

    private final StringBuilder typed = new StringBuilder();
    private final Reader reader = new Reader();

    public WordSmith() {
    }

    public boolean type(int word, int n) {
        if (n < 1 || n > 4 || typed.length() + n > MAX_TYPED) {
            return false;
        }
        for (int k = n - 1; k >= 0; k--) {
            int character = byteOf(word, k);
            if (character < LOWEST_CHARACTER || character > HIGHEST_CHARACTER) {
                return false;
            }
        }
        for (int k = n - 1; k >= 0; k--) {
            typed.append((char) byteOf(word, k));
        }
        return true;
    }

    private static int byteOf(int word, int k) {
        return (word >>> (8 * k)) & 255;
    }

    public int run() {
        reader.take(typed.toString());
        typed.setLength(0);
        int error = NO_ERROR;
        for (int k = 0; k < MAX_TYPED && error == NO_ERROR && reader.advance(); k++) {
            error = reader.readToken();
            if (error == NO_ERROR) {
                error = reader.machine.finishCalls();
            }
        }
        if (error == NO_ERROR) {
            return 0;
        }
        reader.clear();
        return -1000 * error - reader.place;
    }

    public int count(int what) {
        Machine machine = reader.machine;
        switch (what) {
            case 0:
                return machine.data.size;
            case 1:
                return machine.returns.size;
            case 2:
                return machine.putOut;
            case 3:
                return machine.dictionary.made;
            case 4:
                return machine.memory.here;
            case 5:
                return reader.compiler.isCompiling() ? 1 : 0;
            case 6:
                return machine.fuel;
            default:
                return -1;
        }
    }

    public int stack(int k) {
        return reader.machine.data.fromTop(k);
    }

    public int out(int k) {
        Machine machine = reader.machine;
        boolean kept = k >= 0 && k < MAX_OUTPUT && k < machine.putOut;
        return kept ? machine.output[k] : 0;
    }

    public int cell(int address) {
        return reader.machine.memory.fetch(address);
    }

    public int disk(int b, int i) {
        return reader.machine.memory.onDisk(b, i);
    }

    public int items(int t) {
        MadeWord word = reader.machine.dictionary.word(t);
        return word == null ? -1 : word.size;
    }

    public int buffer(int k) {
        return reader.machine.memory.bufferState(k);
    }

    /**
     * The built-in words, each in the place of its number, with how many numbers it takes from the
     * data stack and puts there, where Machine.lack looks at that.
     */
    private enum BuiltIn {
        ADD(0, "+", 2, 1),
        SUBTRACT(1, "-", 2, 1),
        MULTIPLY(2, "*", 2, 1),
        DIVIDE(3, "/", 2, 1),
        MOD(4, "mod", 2, 1),
        AND(5, "and", 2, 1),
        OR(6, "or", 2, 1),
        XOR(7, "xor", 2, 1),
        EQUAL(8, "=", 2, 1),
        LESS(9, "<", 2, 1),
        IS_ZERO(10, "0=", 1, 1),
        NEGATE(11, "negate", 1, 1),
        DUP(12, "dup", 1, 2),
        DROP(13, "drop", 1, 0),
        SWAP(14, "swap", 2, 2),
        OVER(15, "over", 2, 3),
        ROT(16, "rot", 3, 3),
        DEPTH(17, "depth", 0, 1),
        PUT_OUT(18, ".", 1, 0),
        FETCH(19, "@", 1, 1),
        STORE(20, "!", 2, 0),
        ADD_THERE(21, "+!", 2, 0),
        HERE(22, "here", 0, 1),
        COMMA(23, ",", 1, 0),
        ALLOT(24, "allot", 1, 0),
        TO_RETURNS(25, ">r", 1, 0),
        FROM_RETURNS(26, "r>", 0, 1),
        COPY_FROM_RETURNS(27, "r@", 0, 1),
        INNER_COUNT(28, "i", 0, 1),
        OUTER_COUNT(29, "j", 0, 1),
        EXIT(30, "exit", 0, 0),
        EXECUTE(31, "execute", 1, 0),
        TICK(32, "'"),
        VARIABLE(33, "variable"),
        CONSTANT(34, "constant", 1, 0),
        COLON(35, ":"),
        IMMEDIATE(36, "immediate"),
        BLOCK(37, "block", 1, 1),
        UPDATE(38, "update", 0, 0),
        FLUSH(39, "flush", 0, 0),
        SEMICOLON(40, ";"),
        IF(41, "if"),
        THEN(42, "then"),
        ELSE(43, "else"),
        BEGIN(44, "begin"),
        UNTIL(45, "until"),
        AGAIN(46, "again"),
        WHILE(47, "while"),
        REPEAT(48, "repeat"),
        DO(49, "do"),
        LOOP(50, "loop"),
        RECURSE(51, "recurse");

        private static final BuiltIn[] ALL = values();

        final int number;
        final String spelling;
        final int takes;
        final int puts;

        BuiltIn(int number, String spelling) {
            this(number, spelling, 0, 0);
        }

        BuiltIn(int number, String spelling, int takes, int puts) {
            this.number = number;
            this.spelling = spelling;
            this.takes = takes;
            this.puts = puts;
        }

        /** The word with this number, null if no built-in word has it. */
        static BuiltIn numbered(int number) {
            return number >= 0 && number < ALL.length ? ALL[number] : null;
        }

        static int find(String name) {
            for (int k = 0; k < ALL.length; k++) {
                if (ALL[k].spelling.equals(name)) {
                    return ALL[k].number;
                }
            }
            return NONE;
        }

        boolean isCalculating() {
            return number <= NEGATE.number;
        }

        /** One of the words that make or name words, which only a text may hold. */
        boolean isDefining() {
            return number >= TICK.number && number <= IMMEDIATE.number;
        }

        /** One of the immediate words, which compile. */
        boolean isCompiling() {
            return number >= SEMICOLON.number;
        }
    }

    private static final class NumberStack {
        private final int[] numbers = new int[MAX_STACK];
        private int size;

        boolean isFull() {
            return size >= MAX_STACK;
        }

        void push(int number) {
            if (size < MAX_STACK) {
                numbers[size] = number;
                size++;
            }
        }

        int pop() {
            if (size == 0) {
                return 0;
            }
            size--;
            return numbers[size];
        }

        void drop(int n) {
            size = Math.max(0, size - n);
        }

        /** Number k from the top, 0 if there is none. */
        int fromTop(int k) {
            return k >= 0 && k < size ? numbers[size - 1 - k] : 0;
        }

        void clear() {
            size = 0;
        }
    }

    /** The cells, and the disk whose blocks come into the last of them. */
    private static final class Memory {
        private final int[] cells = new int[CELLS];
        private int here;
        private final int[][] blocks = new int[BLOCKS][BLOCK_SIZE];
        private final int[] blockIn = {NONE, NONE};
        private final boolean[] updated = new boolean[BUFFERS];
        private int told = NONE;

        boolean has(int address) {
            return address >= 0 && address < CELLS;
        }

        int fetch(int address) {
            return has(address) ? cells[address] : 0;
        }

        void store(int address, int number) {
            if (has(address)) {
                cells[address] = number;
            }
        }

        boolean canGrow(int n) {
            long grown = (long) here + n;
            return grown >= 0 && grown <= MAX_HERE;
        }

        void grow(int n) {
            if (canGrow(n)) {
                here += n;
            }
        }

        void append(int number) {
            if (canGrow(1)) {
                cells[here] = number;
                here++;
            }
        }

        boolean hasBlock(int block) {
            return block >= 0 && block < BLOCKS;
        }

        int onDisk(int block, int i) {
            return hasBlock(block) && i >= 0 && i < BLOCK_SIZE ? blocks[block][i] : 0;
        }

        int bufferState(int k) {
            if (k < 0 || k >= BUFFERS || blockIn[k] == NONE) {
                return -1;
            }
            return 10 * blockIn[k] + (updated[k] ? 1 : 0);
        }

        /** The address of the buffer that has the block, after it was brought there if need be. */
        int tellBlock(int block) {
            int buffer = bufferWith(block);
            if (buffer == NONE) {
                buffer = told == 0 ? 1 : 0;
                writeIfUpdated(buffer);
                readInto(buffer, block);
            }
            told = buffer;
            return BUFFER_ADDRESSES[buffer];
        }

        private int bufferWith(int block) {
            for (int k = 0; k < BUFFERS; k++) {
                if (blockIn[k] == block) {
                    return k;
                }
            }
            return NONE;
        }

        private void readInto(int buffer, int block) {
            if (block >= 0 && block < BLOCKS) {
                System.arraycopy(blocks[block], 0, cells, BUFFER_ADDRESSES[buffer], BLOCK_SIZE);
                blockIn[buffer] = block;
            }
        }

        private void writeIfUpdated(int buffer) {
            int block = blockIn[buffer];
            if (updated[buffer] && block != NONE) {
                System.arraycopy(cells, BUFFER_ADDRESSES[buffer], blocks[block], 0, BLOCK_SIZE);
            }
            updated[buffer] = false;
        }

        void update() {
            if (told != NONE) {
                updated[told] = true;
            }
        }

        void flush() {
            for (int k = 0; k < BUFFERS; k++) {
                writeIfUpdated(k);
            }
        }
    }

    /** A word that a text made, or is making. */
    private static final class MadeWord {
        private final String name;
        private final int[] kinds = new int[MAX_ITEMS];
        private final int[] values = new int[MAX_ITEMS];
        private int size;
        private boolean immediate;

        MadeWord(String name) {
            this.name = name;
        }

        boolean isFull() {
            return size >= MAX_ITEMS;
        }

        void add(int kind, int value) {
            if (size < MAX_ITEMS) {
                kinds[size] = kind;
                values[size] = value;
                size++;
            }
        }

        /** Lets the jump at this place lead behind the last item there is. */
        void aim(int place) {
            if (place >= 0 && place < size) {
                values[place] = size;
            }
        }
    }

    private static final class Dictionary {
        private final MadeWord[] words = new MadeWord[MAX_MADE];
        private int made;

        boolean isFull() {
            return made >= MAX_MADE;
        }

        void add(MadeWord word) {
            if (word != null && made < MAX_MADE) {
                words[made] = word;
                made++;
            }
        }

        /** The made word with this number, null if there is none. */
        MadeWord word(int number) {
            boolean there = number >= FIRST_MADE && number < FIRST_MADE + made;
            return there ? words[number - FIRST_MADE] : null;
        }

        /** The number of the latest word of this name, NONE if there is none. */
        int find(String name) {
            for (int k = made - 1; k >= 0; k--) {
                MadeWord word = words[k];
                if (word != null && word.name.equals(name)) {
                    return FIRST_MADE + k;
                }
            }
            return BuiltIn.find(name);
        }

        boolean isImmediate(int number) {
            MadeWord word = word(number);
            return word != null && word.immediate;
        }

        int nextNumber() {
            return FIRST_MADE + made;
        }
    }

    /** A made word that is being done. */
    private static final class Call {
        private MadeWord word;
        private int next;
        private final int[] limits = new int[MAX_LOOPS];
        private final int[] counts = new int[MAX_LOOPS];
        private int loops;

        void start(MadeWord newWord) {
            word = newWord;
            next = 0;
            loops = 0;
        }

        void beginLoop(int limit, int count) {
            if (loops < MAX_LOOPS) {
                limits[loops] = limit;
                counts[loops] = count;
                loops++;
            }
        }

        /** Counts the innermost loop on; false if that ended it. */
        boolean countOn() {
            if (loops == 0) {
                return false;
            }
            counts[loops - 1]++;
            if (counts[loops - 1] != limits[loops - 1]) {
                return true;
            }
            loops--;
            return false;
        }

        /** The count of the loop that has so many loops inside it. */
        int loopCount(int inside) {
            return inside >= 0 && inside < loops ? counts[loops - 1 - inside] : 0;
        }
    }

    /** Does words; what it answers is an error, or NO_ERROR. */
    private static final class Machine {
        // An item makes at most one call and a call ends once, so no text needs more steps.
        private static final int MAX_STEPS = 4 * MAX_FUEL;

        private final NumberStack data = new NumberStack();
        private final NumberStack returns = new NumberStack();
        private final Memory memory = new Memory();
        private final Dictionary dictionary = new Dictionary();
        private final Call[] calls = new Call[MAX_CALLS];
        private int depth;
        private final int[] output = new int[MAX_OUTPUT];
        private int putOut;
        private int fuel;

        Machine() {
            for (int k = 0; k < MAX_CALLS; k++) {
                calls[k] = new Call();
            }
        }

        void refuel() {
            fuel = MAX_FUEL;
        }

        boolean burn() {
            if (fuel == 0) {
                return false;
            }
            fuel--;
            return true;
        }

        void clear() {
            data.clear();
            returns.clear();
            depth = 0;
        }

        int putNumber(int number) {
            if (data.isFull()) {
                return NO_ROOM;
            }
            data.push(number);
            return NO_ERROR;
        }

        /** Does the items of the call that was begun, and of those in it, until it has ended. */
        int finishCalls() {
            int error = NO_ERROR;
            for (int k = 0; k < MAX_STEPS && error == NO_ERROR && depth > 0; k++) {
                Call call = calls[depth - 1];
                MadeWord word = call.word;
                int item = call.next;
                if (word == null || item >= word.size) {
                    depth--;
                    continue;
                }
                if (!burn()) {
                    return NO_FUEL;
                }
                call.next++;
                if (word.kinds[item] == ITEM_NUMBER) {
                    error = putNumber(word.values[item]);
                } else if (word.kinds[item] == ITEM_WORD) {
                    error = start(word.values[item]);
                } else {
                    error = jump(call, word.kinds[item], word.values[item]);
                }
            }
            return error;
        }

        private int jump(Call call, int kind, int goal) {
            switch (kind) {
                case ITEM_JUMP:
                    call.next = goal;
                    return NO_ERROR;
                case ITEM_JUMP_IF_ZERO:
                    if (data.size < 1) {
                        return TOO_LITTLE;
                    }
                    if (data.pop() == 0) {
                        call.next = goal;
                    }
                    return NO_ERROR;
                case ITEM_DO:
                    return beginLoop(call);
                default:
                    if (call.countOn()) {
                        call.next = goal;
                    }
                    return NO_ERROR;
            }
        }

        private int beginLoop(Call call) {
            if (data.size < 2) {
                return TOO_LITTLE;
            }
            if (call.loops >= MAX_LOOPS) {
                return NO_ROOM;
            }
            call.beginLoop(data.fromTop(1), data.fromTop(0));
            data.drop(2);
            return NO_ERROR;
        }

        /** Does a built-in word; of a made one, begins the call. */
        int start(int number) {
            int wanted = number;
            // Each execute takes a number, so an execute that does execute ends with the stack.
            for (int k = 0; k <= MAX_STACK && wanted == BuiltIn.EXECUTE.number; k++) {
                if (data.size == 0) {
                    return TOO_LITTLE;
                }
                wanted = data.pop();
                if (!isExecutable(wanted)) {
                    return NO_SUCH_NUMBER;
                }
            }
            BuiltIn word = BuiltIn.numbered(wanted);
            if (word == null) {
                return beginCall(dictionary.word(wanted));
            }
            int error = lack(word);
            if (error == NO_ERROR) {
                perform(word);
            }
            return error;
        }

        private boolean isExecutable(int number) {
            BuiltIn word = BuiltIn.numbered(number);
            if (word == null) {
                return dictionary.word(number) != null;
            }
            return !word.isDefining() && !word.isCompiling();
        }

        private int beginCall(MadeWord word) {
            if (word == null) {
                return NO_SUCH_NUMBER;
            }
            if (depth >= MAX_CALLS) {
                return NO_ROOM;
            }
            calls[depth].start(word);
            depth++;
            return NO_ERROR;
        }

        /** What the word lacks, looked at in the document's order: 6, 2, 4, 5, 8, 3. */
        private int lack(BuiltIn word) {
            if (word == BuiltIn.EXIT && depth == 0) {
                return OUT_OF_PLACE;
            }
            if (data.size < word.takes) {
                return TOO_LITTLE;
            }
            int top = data.fromTop(0);
            int lacking = NO_ERROR;
            switch (word) {
                case FROM_RETURNS:
                case COPY_FROM_RETURNS:
                    lacking = returns.size == 0 ? TOO_LITTLE : NO_ERROR;
                    break;
                case DIVIDE:
                case MOD:
                    lacking = top == 0 ? DIVISION_BY_ZERO : NO_ERROR;
                    break;
                case FETCH:
                case STORE:
                case ADD_THERE:
                    lacking = memory.has(top) ? NO_ERROR : NO_SUCH_NUMBER;
                    break;
                case BLOCK:
                    lacking = memory.hasBlock(top) ? NO_ERROR : NO_SUCH_NUMBER;
                    break;
                case INNER_COUNT:
                    lacking = openLoops() < 1 ? NO_LOOP : NO_ERROR;
                    break;
                case OUTER_COUNT:
                    lacking = openLoops() < 2 ? NO_LOOP : NO_ERROR;
                    break;
                default:
                    break;
            }
            if (lacking != NO_ERROR) {
                return lacking;
            }
            return hasRoom(word, top) ? NO_ERROR : NO_ROOM;
        }

        private int openLoops() {
            return depth == 0 ? 0 : calls[depth - 1].loops;
        }

        private boolean hasRoom(BuiltIn word, int top) {
            switch (word) {
                case COMMA:
                    return memory.canGrow(1);
                case ALLOT:
                    return memory.canGrow(top);
                case TO_RETURNS:
                    return !returns.isFull();
                default:
                    return data.size - word.takes + word.puts <= MAX_STACK;
            }
        }

        private void perform(BuiltIn word) {
            int before = data.size;
            int a = data.fromTop(2);
            int b = data.fromTop(1);
            int c = data.fromTop(0);
            data.drop(word.takes);
            if (word.isCalculating()) {
                data.push(calculate(word, b, c));
                return;
            }
            switch (word) {
                case DUP:
                case SWAP:
                case OVER:
                case ROT:
                    arrange(word, a, b, c);
                    break;
                case DROP:
                    break;
                case DEPTH:
                    data.push(before);
                    break;
                case PUT_OUT:
                    keep(c);
                    break;
                case TO_RETURNS:
                    returns.push(c);
                    break;
                case FROM_RETURNS:
                    data.push(returns.pop());
                    break;
                case COPY_FROM_RETURNS:
                    data.push(returns.fromTop(0));
                    break;
                case INNER_COUNT:
                    data.push(loopCount(0));
                    break;
                case OUTER_COUNT:
                    data.push(loopCount(1));
                    break;
                case EXIT:
                    depth--;
                    break;
                default:
                    performOnMemory(word, b, c);
                    break;
            }
        }

        private void arrange(BuiltIn word, int a, int b, int c) {
            switch (word) {
                case DUP:
                    data.push(c);
                    data.push(c);
                    break;
                case SWAP:
                    data.push(c);
                    data.push(b);
                    break;
                case OVER:
                    data.push(b);
                    data.push(c);
                    data.push(b);
                    break;
                default:
                    data.push(b);
                    data.push(c);
                    data.push(a);
                    break;
            }
        }

        private void performOnMemory(BuiltIn word, int b, int c) {
            switch (word) {
                case FETCH:
                    data.push(memory.fetch(c));
                    break;
                case STORE:
                    memory.store(c, b);
                    break;
                case ADD_THERE:
                    memory.store(c, memory.fetch(c) + b);
                    break;
                case HERE:
                    data.push(memory.here);
                    break;
                case COMMA:
                    memory.append(c);
                    break;
                case ALLOT:
                    memory.grow(c);
                    break;
                case BLOCK:
                    data.push(memory.tellBlock(c));
                    break;
                case UPDATE:
                    memory.update();
                    break;
                case FLUSH:
                    memory.flush();
                    break;
                default:
                    break;
            }
        }

        private int loopCount(int inside) {
            return depth == 0 ? 0 : calls[depth - 1].loopCount(inside);
        }

        private void keep(int number) {
            if (putOut < MAX_OUTPUT) {
                output[putOut] = number;
            }
            putOut++;
        }

        private static int calculate(BuiltIn word, int a, int b) {
            switch (word) {
                case ADD:
                    return a + b;
                case SUBTRACT:
                    return a - b;
                case MULTIPLY:
                    return a * b;
                case DIVIDE:
                    return b == 0 ? 0 : a / b;
                case MOD:
                    return b == 0 ? 0 : a % b;
                case AND:
                    return a & b;
                case OR:
                    return a | b;
                case XOR:
                    return a ^ b;
                case EQUAL:
                    return flag(a == b);
                case LESS:
                    return flag(a < b);
                case IS_ZERO:
                    return flag(b == 0);
                default:
                    return -b;
            }
        }

        private static int flag(boolean holds) {
            return holds ? -1 : 0;
        }
    }

    /** The word that is being made, and what is open in it. */
    private static final class Compiler {
        private MadeWord draft;
        private final BuiltIn[] openers = new BuiltIn[MAX_OPEN];
        private final int[] places = new int[MAX_OPEN];
        private int open;

        boolean isCompiling() {
            return draft != null;
        }

        void begin(String name) {
            draft = new MadeWord(name);
            open = 0;
        }

        MadeWord end() {
            MadeWord word = draft;
            draft = null;
            return word;
        }

        int addItem(int kind, int value) {
            if (draft == null) {
                return OUT_OF_PLACE;
            }
            if (draft.isFull()) {
                return NO_ROOM;
            }
            draft.add(kind, value);
            return NO_ERROR;
        }

        /** What one of the compiling words lacks. */
        int lack(BuiltIn word) {
            if (draft == null || !fits(word)) {
                return OUT_OF_PLACE;
            }
            if (opensOne(word) && open >= MAX_OPEN) {
                return NO_ROOM;
            }
            return isItem(word) && draft.isFull() ? NO_ROOM : NO_ERROR;
        }

        private boolean fits(BuiltIn word) {
            BuiltIn last = open == 0 ? null : openers[open - 1];
            switch (word) {
                case SEMICOLON:
                    return last == null;
                case THEN:
                    return last == BuiltIn.IF || last == BuiltIn.ELSE;
                case ELSE:
                    return last == BuiltIn.IF;
                case UNTIL:
                case AGAIN:
                case WHILE:
                    return last == BuiltIn.BEGIN;
                case REPEAT:
                    return last == BuiltIn.WHILE;
                case LOOP:
                    return last == BuiltIn.DO;
                default:
                    return true;
            }
        }

        // A while is open beside its begin, until their repeat; an else stands in its if's place.
        private static boolean opensOne(BuiltIn word) {
            return word == BuiltIn.IF || word == BuiltIn.BEGIN
                    || word == BuiltIn.WHILE || word == BuiltIn.DO;
        }

        private static boolean isItem(BuiltIn word) {
            return word != BuiltIn.THEN && word != BuiltIn.BEGIN && word != BuiltIn.SEMICOLON;
        }

        /** Compiles one of the jumps, or what only marks a place for them. */
        void compile(BuiltIn word) {
            if (draft == null) {
                return;
            }
            int place = draft.size;
            switch (word) {
                case IF:
                case WHILE:
                    draft.add(ITEM_JUMP_IF_ZERO, 0);
                    push(word, place);
                    break;
                case ELSE:
                    draft.add(ITEM_JUMP, 0);
                    draft.aim(pop());
                    push(word, place);
                    break;
                case THEN:
                    draft.aim(pop());
                    break;
                case BEGIN:
                    push(word, place);
                    break;
                case UNTIL:
                    draft.add(ITEM_JUMP_IF_ZERO, pop());
                    break;
                case AGAIN:
                    draft.add(ITEM_JUMP, pop());
                    break;
                case REPEAT:
                    closeWhile();
                    break;
                case DO:
                    draft.add(ITEM_DO, 0);
                    push(word, draft.size);
                    break;
                case LOOP:
                    draft.add(ITEM_LOOP, pop());
                    break;
                default:
                    break;
            }
        }

        private void closeWhile() {
            int jump = pop();
            draft.add(ITEM_JUMP, pop());
            draft.aim(jump);
        }

        private void push(BuiltIn word, int place) {
            if (open < MAX_OPEN) {
                openers[open] = word;
                places[open] = place;
                open++;
            }
        }

        private int pop() {
            if (open == 0) {
                return 0;
            }
            open--;
            return places[open];
        }
    }

    /** Reads a text token by token; what it answers is an error, or NO_ERROR. */
    private static final class Reader {
        private final Machine machine = new Machine();
        private final Compiler compiler = new Compiler();
        private String text = "";
        private int at;
        private int place;
        private String token = "";

        void take(String newText) {
            text = newText;
            at = 0;
            machine.refuel();
        }

        /** Goes to the next token; false if there is none. */
        boolean advance() {
            skipSpaces();
            place = at;
            token = cutToken();
            return !token.isEmpty();
        }

        private void skipSpaces() {
            while (at < text.length() && text.charAt(at) == ' ') {
                at++;
            }
        }

        private String cutToken() {
            int from = at;
            while (at < text.length() && text.charAt(at) != ' ') {
                at++;
            }
            return text.substring(from, at);
        }

        /** What an error leaves behind. */
        void clear() {
            machine.clear();
            compiler.end();
        }

        int readToken() {
            if (!machine.burn()) {
                return NO_FUEL;
            }
            if (isNumber(token)) {
                return readNumber(numberOf(token));
            }
            int number = isName(token) ? machine.dictionary.find(token) : NONE;
            if (number == NONE) {
                return UNKNOWN;
            }
            BuiltIn builtIn = BuiltIn.numbered(number);
            if (builtIn != null && builtIn.isDefining()) {
                return define(builtIn);
            }
            if (builtIn != null && builtIn.isCompiling()) {
                return compile(builtIn);
            }
            if (compiler.isCompiling() && !machine.dictionary.isImmediate(number)) {
                return compiler.addItem(ITEM_WORD, number);
            }
            return machine.start(number);
        }

        private static boolean isNumber(String token) {
            int first = !token.isEmpty() && token.charAt(0) == '-' ? 1 : 0;
            int digits = token.length() - first;
            if (digits < 1 || digits > MAX_DIGITS) {
                return false;
            }
            for (int k = first; k < token.length(); k++) {
                if (token.charAt(k) < '0' || token.charAt(k) > '9') {
                    return false;
                }
            }
            return true;
        }

        private static int numberOf(String token) {
            boolean negative = token.charAt(0) == '-';
            int number = 0;
            for (int k = negative ? 1 : 0; k < token.length(); k++) {
                number = 10 * number + token.charAt(k) - '0';
            }
            return negative ? -number : number;
        }

        private static boolean isName(String token) {
            return !token.isEmpty() && token.length() <= MAX_NAME && !isNumber(token);
        }

        private int readNumber(int number) {
            if (compiler.isCompiling()) {
                return compiler.addItem(ITEM_NUMBER, number);
            }
            return machine.putNumber(number);
        }

        private int compile(BuiltIn word) {
            int error = compiler.lack(word);
            if (error != NO_ERROR) {
                return error;
            }
            if (word == BuiltIn.SEMICOLON) {
                machine.dictionary.add(compiler.end());
                return NO_ERROR;
            }
            if (word == BuiltIn.RECURSE) {
                return compiler.addItem(ITEM_WORD, machine.dictionary.nextNumber());
            }
            compiler.compile(word);
            return NO_ERROR;
        }

        private int define(BuiltIn word) {
            if (compiler.isCompiling()) {
                return OUT_OF_PLACE;
            }
            if (word == BuiltIn.IMMEDIATE) {
                return makeImmediate();
            }
            skipSpaces();
            String name = cutToken();
            if (!isName(name)) {
                return OUT_OF_PLACE;
            }
            if (word == BuiltIn.TICK) {
                return putNumberOfWord(name);
            }
            return makeWord(word, name);
        }

        private int makeImmediate() {
            MadeWord last = machine.dictionary.word(machine.dictionary.nextNumber() - 1);
            if (last == null) {
                return OUT_OF_PLACE;
            }
            last.immediate = true;
            return NO_ERROR;
        }

        private int putNumberOfWord(String name) {
            int number = machine.dictionary.find(name);
            return number == NONE ? UNKNOWN : machine.putNumber(number);
        }

        private int makeWord(BuiltIn word, String name) {
            Memory memory = machine.memory;
            if (machine.data.size < word.takes) {
                return TOO_LITTLE;
            }
            if (machine.dictionary.isFull()) {
                return NO_ROOM;
            }
            switch (word) {
                case VARIABLE:
                    if (!memory.canGrow(1)) {
                        return NO_ROOM;
                    }
                    makeNumberWord(name, memory.here);
                    memory.append(0);
                    return NO_ERROR;
                case CONSTANT:
                    makeNumberWord(name, machine.data.pop());
                    return NO_ERROR;
                default:
                    compiler.begin(name);
                    return NO_ERROR;
            }
        }

        private void makeNumberWord(String name, int number) {
            MadeWord made = new MadeWord(name);
            made.add(ITEM_NUMBER, number);
            machine.dictionary.add(made);
        }
    }
}
