import java.util.Arrays;
import java.util.NoSuchElementException;

/** An optimizer for the control store of a microcoded processor. */
public final class MicrocodeOptimizer {
    /** Returned when there is no such value. */
    public static final int NONE = -1;

    private static final int MAX_INPUT = 1200;
    private static final int MAX_OPERATIONS = 12;
    private static final int MAX_INSTRUCTIONS = 8;
    private static final int MAX_LENGTH = 24;
    private static final int MAX_SEGMENT = 10;
    private static final int MAX_UNITS = 6;
    private static final int MAX_REGISTERS = 8;
    private static final int MAX_NAME = 8;
    private static final int MAX_DIGITS = 4;
    private static final int MAX_CHANGES = 8;

    /** All positions of all instructions; the store never has more words, for a word has an operation. */
    private static final int MAX_POSITIONS = MAX_INSTRUCTIONS * MAX_LENGTH;

    private static final int ONE_BY_ONE = 0;
    private static final int BY_LIST = 1;
    private static final int FEWEST = 2;

    private static final int FREE = 0;
    private static final int WEAK = 1;
    private static final int STRICT = 2;
    private static final int APART = 3;

    /** The signs in the order of the kinds from 1 on. */
    private static final String SIGNS = "+-*&|^";

    /** find() tells instructions from operations by this. */
    private static final int INSTRUCTION_BASE = 100;

    private final Input input = new Input();
    private final Output output = new Output();
    private Source source = new Source();
    /** load() reads into this one, so that an error leaves the present source alone. */
    private Source spare = new Source();
    private final History history = new History();
    private final Packer packer = new Packer();
    private final Words words = new Words();
    private final Store store = new Store();
    private final Fields fields = new Fields();
    private final Processor processor = new Processor();
    private int mode = ONE_BY_ONE;

    public MicrocodeOptimizer() {
    }

    // ---- texts

    public int append(int a, int b, int c, int d, int e) {
        if (input.size + 20 > MAX_INPUT) {
            return NONE;
        }
        input.put(a);
        input.put(b);
        input.put(c);
        input.put(d);
        input.put(e);
        return input.size;
    }

    public boolean truncate(int length) {
        if (length < 0 || length > input.size) {
            return false;
        }
        input.size = length;
        return true;
    }

    public int bufferLength() {
        return input.size;
    }

    public int load() {
        int error = input.read(spare);
        input.size = 0;
        if (error != 0) {
            return -error;
        }
        Source former = source;
        source = spare;
        spare = former;
        history.forget();
        packAll();
        return source.instructions;
    }

    public int find() {
        long name = input.wholeName();
        input.size = 0;
        int operation = source.operationNamed(name);
        if (operation != NONE) {
            return operation;
        }
        int instruction = source.instructionNamed(name);
        return instruction == NONE ? NONE : INSTRUCTION_BASE + instruction;
    }

    public int write() {
        output.putSource(source);
        return output.size;
    }

    public int outputByte(int index) throws NoSuchElementException {
        if (index < 0 || index >= output.size) {
            throw new NoSuchElementException("no such byte of the output");
        }
        return output.bytes[index];
    }

    // ---- source

    public int operationCount() {
        return source.operations;
    }

    public int instructionCount() {
        return source.instructions;
    }

    public int operation(int operation, int what) throws IndexOutOfBoundsException, IllegalArgumentException {
        checkOperation(operation);
        switch (what) {
            case 0:
                return source.units[operation];
            case 1:
                return source.targets[operation];
            case 2:
                return source.kinds[operation];
            case 3:
                return source.reads[operation];
            case 4:
                return source.occurrences(operation);
            default:
                throw new IllegalArgumentException("no such property of an operation");
        }
    }

    public int length(int instruction) throws IndexOutOfBoundsException {
        checkInstruction(instruction);
        return source.lengths[instruction];
    }

    public int operationAt(int instruction, int index) throws IndexOutOfBoundsException {
        checkPosition(instruction, index);
        return source.sequence[instruction * MAX_LENGTH + index];
    }

    public boolean hasMark(int instruction, int index) throws IndexOutOfBoundsException {
        checkPosition(instruction, index);
        return source.marks[instruction * MAX_LENGTH + index];
    }

    public int dependence(int instruction, int first, int second) throws IndexOutOfBoundsException {
        checkPosition(instruction, first);
        checkPosition(instruction, second);
        if (first >= second) {
            return FREE;
        }
        int base = instruction * MAX_LENGTH;
        if (source.segmentEnd(instruction, first) <= second) {
            return APART;
        }
        return source.tie(source.sequence[base + first], source.sequence[base + second]);
    }

    private void checkOperation(int operation) {
        if (operation < 0 || operation >= source.operations) {
            throw new IndexOutOfBoundsException("no such operation");
        }
    }

    private void checkInstruction(int instruction) {
        if (instruction < 0 || instruction >= source.instructions) {
            throw new IndexOutOfBoundsException("no such instruction");
        }
    }

    private void checkPosition(int instruction, int index) {
        checkInstruction(instruction);
        if (index < 0 || index >= source.lengths[instruction]) {
            throw new IndexOutOfBoundsException("no such index into the source");
        }
    }

    // ---- changes

    public int setMode(int mode) throws IllegalArgumentException {
        if (mode < ONE_BY_ONE || mode > FEWEST) {
            throw new IllegalArgumentException("no such mode");
        }
        history.remember(NONE, this.mode);
        this.mode = mode;
        packAll();
        return store.size;
    }

    public int mode() {
        return mode;
    }

    public int setMark(int instruction, int index, boolean isThere)
            throws IndexOutOfBoundsException, IllegalStateException {
        checkPosition(instruction, index);
        if (index == source.lengths[instruction] - 1) {
            throw new IndexOutOfBoundsException("no mark behind the last operation");
        }
        if (!isThere && source.joinedLength(instruction, index) > MAX_SEGMENT) {
            throw new IllegalStateException("a segment would be too long");
        }
        int position = instruction * MAX_LENGTH + index;
        history.remember(position, source.marks[position] ? 1 : 0);
        changeMark(position, isThere);
        return store.size;
    }

    public int undo() {
        if (history.size == 0) {
            return NONE;
        }
        int last = history.size - 1;
        int position = history.positions[last];
        int former = history.formers[last];
        history.size = last;
        if (position == NONE) {
            mode = former;
            packAll();
        } else {
            changeMark(position, former == 1);
        }
        return history.size;
    }

    private void changeMark(int position, boolean isThere) {
        source.marks[position] = isThere;
        words.pack(source, position / MAX_LENGTH, mode, packer);
        fillStore();
    }

    private void packAll() {
        for (int i = 0; i < source.instructions; i++) {
            words.pack(source, i, mode, packer);
        }
        fillStore();
    }

    /** Every way to a new store goes through here, so this is where the processor becomes idle. */
    private void fillStore() {
        store.size = 0;
        for (int i = 0; i < source.instructions; i++) {
            store.place(i, words);
        }
        fields.isKnown = false;
        processor.address = NONE;
    }

    // ---- words

    public int wordCount(int instruction) throws IndexOutOfBoundsException {
        checkInstruction(instruction);
        return words.counts[instruction];
    }

    public int word(int instruction, int index) throws IndexOutOfBoundsException {
        checkInstruction(instruction);
        if (index < 0 || index >= words.counts[instruction]) {
            throw new IndexOutOfBoundsException("no such word");
        }
        return words.sets[instruction * MAX_LENGTH + index];
    }

    public int chain(int instruction) throws IndexOutOfBoundsException {
        checkInstruction(instruction);
        return words.chains[instruction];
    }

    public int latency(int instruction) throws IndexOutOfBoundsException {
        checkInstruction(instruction);
        return words.latencies[instruction];
    }

    // ---- store

    public int storeSize() {
        return store.size;
    }

    public int entry(int instruction) throws IndexOutOfBoundsException {
        checkInstruction(instruction);
        return store.entries[instruction];
    }

    public int store(int address, int what) throws IndexOutOfBoundsException, IllegalArgumentException {
        checkAddress(address);
        switch (what) {
            case 0:
                return store.sets[address];
            case 1:
                return store.safe[address] ? 1 : 0;
            case 2:
                return store.next[address];
            case 3:
                return store.users(address, source.instructions);
            default:
                throw new IllegalArgumentException("no such property of a word");
        }
    }

    private void checkAddress(int address) {
        if (address < 0 || address >= store.size) {
            throw new IndexOutOfBoundsException("no such address");
        }
    }

    // ---- fields

    public int fieldCount() {
        fields.know(store);
        return fields.count;
    }

    public int fieldBits() {
        fields.know(store);
        return fields.bits;
    }

    public int fieldOf(int operation) throws IndexOutOfBoundsException {
        checkOperation(operation);
        fields.know(store);
        return fields.numbers[operation];
    }

    public int codeOf(int operation) throws IndexOutOfBoundsException {
        checkOperation(operation);
        fields.know(store);
        return fields.codes[operation];
    }

    public long control(int address) throws IndexOutOfBoundsException {
        checkAddress(address);
        fields.know(store);
        return fields.encode(store.sets[address], store.safe[address]);
    }

    // ---- execution

    public int setRegister(int register, int value) throws IndexOutOfBoundsException {
        checkRegister(register);
        int former = processor.registers[register];
        processor.registers[register] = value;
        return former;
    }

    public int register(int register) throws IndexOutOfBoundsException {
        checkRegister(register);
        return processor.registers[register];
    }

    private void checkRegister(int register) {
        if (register < 0 || register >= MAX_REGISTERS) {
            throw new IndexOutOfBoundsException("no such register");
        }
    }

    public int runSource(int instruction) throws IndexOutOfBoundsException, IllegalStateException {
        checkInstruction(instruction);
        checkIdle();
        processor.runSequence(source, instruction, processor.registers);
        return source.lengths[instruction];
    }

    public int start(int instruction, int words)
            throws IndexOutOfBoundsException, IllegalArgumentException, IllegalStateException {
        checkInstruction(instruction);
        if (words < 0) {
            throw new IllegalArgumentException("a negative number of words");
        }
        checkIdle();
        processor.address = store.entries[instruction];
        return words == 0 ? 0 : processor.runWords(source, store, words);
    }

    public int resume() throws IllegalStateException {
        if (processor.address == NONE) {
            throw new IllegalStateException("the processor is idle");
        }
        // No instruction has more words, so none of them but the last can be the one that is waited for.
        return processor.runWords(source, store, MAX_LENGTH);
    }

    private void checkIdle() {
        if (processor.address != NONE) {
            throw new IllegalStateException("the processor is not idle");
        }
    }

    public int address() {
        return processor.address;
    }

    public boolean agrees(int instruction) throws IndexOutOfBoundsException {
        checkInstruction(instruction);
        return processor.agreesOn(source, store, instruction);
    }

    /** The operations and instructions of a text; a name is a number, its characters in base 256. */
    static final class Source {
        int operations = 0;
        final long[] operationNames = new long[MAX_OPERATIONS];
        final int[] units = new int[MAX_OPERATIONS];
        final int[] targets = new int[MAX_OPERATIONS];
        final int[] kinds = new int[MAX_OPERATIONS];
        /** An operand is a constant, or ~r for register r. */
        final int[] firsts = new int[MAX_OPERATIONS];
        final int[] seconds = new int[MAX_OPERATIONS];
        final int[] reads = new int[MAX_OPERATIONS];
        int instructions = 0;
        final long[] instructionNames = new long[MAX_INSTRUCTIONS];
        final int[] lengths = new int[MAX_INSTRUCTIONS];
        /** Instruction i begins at i * MAX_LENGTH, here and in the marks. */
        final int[] sequence = new int[MAX_POSITIONS];
        final boolean[] marks = new boolean[MAX_POSITIONS];

        int operationNamed(long name) {
            return indexOf(name, operationNames, operations);
        }

        int instructionNamed(long name) {
            return indexOf(name, instructionNames, instructions);
        }

        private static int indexOf(long name, long[] names, int count) {
            for (int i = 0; i < count; i++) {
                if (names[i] == name) {
                    return i;
                }
            }
            return NONE;
        }

        int occurrences(int operation) {
            int count = 0;
            for (int i = 0; i < instructions; i++) {
                int base = i * MAX_LENGTH;
                for (int k = 0; k < lengths[i]; k++) {
                    if (sequence[base + k] == operation) {
                        count++;
                    }
                }
            }
            return count;
        }

        /** How a later operation of a segment depends on an earlier one. */
        int tie(int earlier, int later) {
            if (targets[earlier] == targets[later] || (reads[later] & 1 << targets[earlier]) != 0) {
                return STRICT;
            }
            return (reads[earlier] & 1 << targets[later]) != 0 ? WEAK : FREE;
        }

        /** The index behind the segment that has the operation at this index. */
        int segmentEnd(int instruction, int index) {
            int base = instruction * MAX_LENGTH;
            int last = lengths[instruction] - 1;
            for (int k = index; k < last; k++) {
                if (marks[base + k]) {
                    return k + 1;
                }
            }
            return last + 1;
        }

        /** The length of the segment with the operations at index and index + 1 if no mark were between them. */
        int joinedLength(int instruction, int index) {
            int base = instruction * MAX_LENGTH;
            int begin = index;
            for (int k = index - 1; k >= 0 && !marks[base + k]; k--) {
                begin = k;
            }
            return segmentEnd(instruction, index + 1) - begin;
        }
    }

    /** The input buffer, which is read into a source, token by token, or as a name. */
    static final class Input {
        /** Kinds of tokens; a token of a single byte is that byte, and all of these are above 32. */
        private static final int END = 0;
        private static final int INVALID = 1;
        private static final int NAME = 2;
        private static final int REGISTER = 3;
        private static final int NUMBER = 4;
        private static final int OP = 5;
        private static final int UNIT = 6;
        private static final int INSTR = 7;

        private static final int NOT_ALLOWED = 1;
        private static final int NO_SUCH_UNIT = 2;
        private static final int NAME_IN_USE = 3;
        private static final int NO_OPERATION = 4;
        private static final int TOO_MANY = 5;

        /** The words of the grammar, and r0, as names. */
        private static final long OP_NAME = 0x6f70L;
        private static final long UNIT_NAME = 0x756e6974L;
        private static final long INSTR_NAME = 0x696e737472L;
        private static final long R0_NAME = 0x7230L;

        private static final String SINGLES = "=;:,!+-*&|^";

        int size = 0;
        private final byte[] text = new byte[MAX_INPUT];
        /** The first byte behind the token. */
        private int at = 0;
        private int token = END;
        private int offset = 0;
        /** What the latest word, and the latest number or register, was. */
        private long name = 0;
        private int number = 0;
        private int error = 0;

        /** Appends four bytes, as far as there is room for them. */
        void put(int four) {
            for (int shift = 24; shift >= 0; shift -= 8) {
                if (size < MAX_INPUT) {
                    text[size] = (byte) (four >>> shift);
                    size++;
                }
            }
        }

        /** The whole buffer as a name; 0, which no name is, if it has other characters or too many. */
        long wholeName() {
            if (size > MAX_NAME) {
                return 0;
            }
            long whole = 0;
            for (int i = 0; i < size; i++) {
                if (!isLetter(text[i]) && !isDigit(text[i])) {
                    return 0;
                }
                whole = whole << 8 | text[i];
            }
            return whole;
        }

        private static boolean isLetter(int c) {
            return c >= 'a' && c <= 'z';
        }

        private static boolean isDigit(int c) {
            return c >= '0' && c <= '9';
        }

        /** Answers 0, or 8 * offset + kind of the first error; the source is then half filled. */
        int read(Source into) {
            at = 0;
            error = 0;
            into.operations = 0;
            into.instructions = 0;
            advance();
            boolean isGood = true;
            for (int i = 0; i <= MAX_OPERATIONS && isGood && token == OP; i++) {
                isGood = readOperation(into);
            }
            for (int i = 0; i <= MAX_INSTRUCTIONS && isGood && token == INSTR; i++) {
                isGood = readInstruction(into);
            }
            if (isGood && token != END) {
                fail(NOT_ALLOWED);
            }
            return error;
        }

        private boolean readOperation(Source into) {
            int operation = into.operations;
            if (operation >= MAX_OPERATIONS) {
                return fail(TOO_MANY);
            }
            advance();
            if (!isNewName(into)) {
                return false;
            }
            into.operationNames[operation] = name;
            advance();
            if (!take(UNIT) || !readUnit(into) || !readTarget(into) || !take('=')
                    || !readValue(into) || !take(';')) {
                return false;
            }
            into.operations = operation + 1;
            return true;
        }

        private boolean isNewName(Source into) {
            if (token != NAME) {
                return fail(NOT_ALLOWED);
            }
            if (into.operationNamed(name) != NONE || into.instructionNamed(name) != NONE) {
                return fail(NAME_IN_USE);
            }
            return true;
        }

        private boolean readUnit(Source into) {
            if (token != NUMBER) {
                return fail(NOT_ALLOWED);
            }
            if (number >= MAX_UNITS) {
                return fail(NO_SUCH_UNIT);
            }
            into.units[into.operations] = number;
            advance();
            return true;
        }

        private boolean readTarget(Source into) {
            if (token != REGISTER) {
                return fail(NOT_ALLOWED);
            }
            into.targets[into.operations] = number;
            advance();
            return true;
        }

        private boolean readValue(Source into) {
            int operation = into.operations;
            if (!isOperand()) {
                return fail(NOT_ALLOWED);
            }
            into.firsts[operation] = operand();
            into.reads[operation] = operandReads();
            into.seconds[operation] = 0;
            advance();
            int kind = token > ' ' ? SIGNS.indexOf((char) token) + 1 : 0;
            into.kinds[operation] = kind;
            if (kind == 0) {
                return true;
            }
            advance();
            if (!isOperand()) {
                return fail(NOT_ALLOWED);
            }
            into.seconds[operation] = operand();
            into.reads[operation] |= operandReads();
            advance();
            return true;
        }

        private boolean isOperand() {
            return token == REGISTER || token == NUMBER;
        }

        private int operand() {
            return token == REGISTER ? ~number : number;
        }

        private int operandReads() {
            return token == REGISTER ? 1 << number : 0;
        }

        private boolean readInstruction(Source into) {
            int instruction = into.instructions;
            if (instruction >= MAX_INSTRUCTIONS) {
                return fail(TOO_MANY);
            }
            advance();
            if (!isNewName(into)) {
                return false;
            }
            into.instructionNames[instruction] = name;
            advance();
            if (!take(':') || !readSequence(into) || !take(';')) {
                return false;
            }
            into.instructions = instruction + 1;
            return true;
        }

        private boolean readSequence(Source into) {
            int base = into.instructions * MAX_LENGTH;
            int inSegment = 0;
            for (int k = 0; k <= MAX_LENGTH; k++) {
                if (token != NAME) {
                    return fail(NOT_ALLOWED);
                }
                int operation = into.operationNamed(name);
                if (operation == NONE) {
                    return fail(NO_OPERATION);
                }
                if (k == MAX_LENGTH || inSegment == MAX_SEGMENT) {
                    return fail(TOO_MANY);
                }
                advance();
                into.sequence[base + k] = operation;
                into.marks[base + k] = token == '!';
                into.lengths[into.instructions] = k + 1;
                inSegment = token == '!' ? 0 : inSegment + 1;
                if (token != '!' && token != ',') {
                    return true;
                }
                advance();
            }
            return true;
        }

        private boolean take(int wanted) {
            if (token != wanted) {
                return fail(NOT_ALLOWED);
            }
            advance();
            return true;
        }

        private boolean fail(int kind) {
            error = 8 * offset + kind;
            return false;
        }

        private void advance() {
            while (at < size && (text[at] == ' ' || text[at] == '\n')) {
                at++;
            }
            offset = at;
            if (at >= size) {
                token = END;
            } else if (isLetter(text[at])) {
                takeWord();
            } else if (isDigit(text[at])) {
                takeNumber();
            } else {
                token = text[at] > ' ' && SINGLES.indexOf((char) text[at]) >= 0 ? text[at] : INVALID;
                at++;
            }
        }

        private void takeWord() {
            name = 0;
            while (at < size && (isLetter(text[at]) || isDigit(text[at]))) {
                name = name << 8 | text[at];
                at++;
            }
            if (at - offset > MAX_NAME) {
                token = INVALID;
            } else if (name >= R0_NAME && name < R0_NAME + MAX_REGISTERS) {
                token = REGISTER;
                number = (int) (name - R0_NAME);
            } else {
                token = name == OP_NAME ? OP : name == UNIT_NAME ? UNIT : name == INSTR_NAME ? INSTR : NAME;
            }
        }

        private void takeNumber() {
            number = 0;
            while (at < size && isDigit(text[at])) {
                number = 10 * number + text[at] - '0';
                at++;
            }
            token = at - offset > MAX_DIGITS ? INVALID : NUMBER;
        }
    }

    /** The output: writes a source as a text. */
    static final class Output {
        private static final int OPERATION_BYTES = 32;
        private static final int INSTRUCTION_BYTES = 15 + 9 * MAX_LENGTH;

        final byte[] bytes = new byte[MAX_OPERATIONS * OPERATION_BYTES + MAX_INSTRUCTIONS * INSTRUCTION_BYTES];
        int size = 0;

        void putSource(Source source) {
            size = 0;
            for (int i = 0; i < source.operations; i++) {
                putOperation(source, i);
            }
            for (int i = 0; i < source.instructions; i++) {
                putInstruction(source, i);
            }
        }

        private void putOperation(Source source, int operation) {
            putText("op ");
            putName(source.operationNames[operation]);
            putText(" unit ");
            putNumber(source.units[operation]);
            put(' ');
            putOperand(~source.targets[operation]);
            put('=');
            putOperand(source.firsts[operation]);
            int kind = source.kinds[operation];
            if (kind > 0) {
                put(SIGNS.charAt(kind - 1));
                putOperand(source.seconds[operation]);
            }
            put(';');
        }

        private void putInstruction(Source source, int instruction) {
            putText("instr ");
            putName(source.instructionNames[instruction]);
            int base = instruction * MAX_LENGTH;
            for (int k = 0; k < source.lengths[instruction]; k++) {
                put(k == 0 ? ':' : source.marks[base + k - 1] ? '!' : ',');
                putName(source.operationNames[source.sequence[base + k]]);
            }
            put(';');
        }

        private void putOperand(int operand) {
            if (operand < 0) {
                put('r');
                putNumber(~operand);
            } else {
                putNumber(operand);
            }
        }

        private void putNumber(int number) {
            for (int unit = 1000; unit > 0; unit /= 10) {
                if (number >= unit || unit == 1) {
                    put('0' + number / unit % 10);
                }
            }
        }

        private void putName(long name) {
            for (int shift = 8 * (MAX_NAME - 1); shift >= 0; shift -= 8) {
                int c = (int) (name >>> shift) & 255;
                if (c != 0) {
                    put(c);
                }
            }
        }

        private void putText(String text) {
            for (int i = 0; i < text.length(); i++) {
                put(text.charAt(i));
            }
        }

        private void put(int c) {
            if (size < bytes.length) {
                bytes[size] = (byte) c;
                size++;
            }
        }
    }

    /** The latest changes, the oldest one first: what they replaced. */
    static final class History {
        /** The position of a mark, or NONE for the mode. */
        final int[] positions = new int[MAX_CHANGES];
        final int[] formers = new int[MAX_CHANGES];
        int size = 0;

        void forget() {
            size = 0;
        }

        void remember(int position, int former) {
            if (size == MAX_CHANGES) {
                for (int i = 1; i < MAX_CHANGES; i++) {
                    positions[i - 1] = positions[i];
                    formers[i - 1] = formers[i];
                }
                size--;
            }
            positions[size] = position;
            formers[size] = former;
            size++;
        }
    }

    /** Packs one segment; here a set is a bit mask of positions in the segment. */
    static final class Packer {
        /** The words of the latest packing. */
        final int[] packing = new int[MAX_SEGMENT];
        int count = 0;
        /** The least number of words if there were no units. */
        int depth = 0;
        private int size = 0;
        private final int[] unitOf = new int[MAX_SEGMENT];
        private final int[] strict = new int[MAX_SEGMENT];
        private final int[] weak = new int[MAX_SEGMENT];
        /** How many words at least a position and all that follow from it need. */
        private final int[] heights = new int[MAX_SEGMENT];
        private final int[] ofUnit = new int[MAX_UNITS];
        /** For a packed set: 16 * search + the number of words that were too few for the rest. */
        private final int[] tooFew = new int[1 << MAX_SEGMENT];
        private int search = 0;
        /** The number of words that the search tries now. */
        private int wanted = 0;

        /** Packs the positions from first up to behind of the sequence. */
        void pack(Source source, int first, int behind, int mode) {
            size = behind - first;
            count = 0;
            prepareUnits(source, first);
            prepareTies(source, first);
            prepareHeights();
            if (mode == ONE_BY_ONE) {
                packOneByOne();
            } else if (mode == BY_LIST) {
                packByList();
            } else {
                packFewest();
            }
        }

        private void prepareUnits(Source source, int first) {
            for (int u = 0; u < MAX_UNITS; u++) {
                ofUnit[u] = 0;
            }
            for (int p = 0; p < size; p++) {
                int unit = source.units[source.sequence[first + p]];
                unitOf[p] = unit;
                ofUnit[unit] |= 1 << p;
            }
        }

        private void prepareTies(Source source, int first) {
            for (int later = 0; later < size; later++) {
                strict[later] = 0;
                weak[later] = 0;
                for (int earlier = 0; earlier < later; earlier++) {
                    int tie = source.tie(source.sequence[first + earlier], source.sequence[first + later]);
                    if (tie == STRICT) {
                        strict[later] |= 1 << earlier;
                    } else if (tie == WEAK) {
                        weak[later] |= 1 << earlier;
                    }
                }
            }
        }

        private void prepareHeights() {
            depth = 0;
            for (int p = size - 1; p >= 0; p--) {
                int height = 1;
                for (int later = p + 1; later < size; later++) {
                    if ((strict[later] & 1 << p) != 0) {
                        height = Math.max(height, heights[later] + 1);
                    } else if ((weak[later] & 1 << p) != 0) {
                        height = Math.max(height, heights[later]);
                    }
                }
                heights[p] = height;
                depth = Math.max(depth, height);
            }
        }

        private void packOneByOne() {
            for (int p = 0; p < size; p++) {
                packing[p] = 1 << p;
            }
            count = size;
        }

        private void packByList() {
            int all = (1 << size) - 1;
            int packed = 0;
            // The first position that is left may always enter, so each word takes one at least.
            for (int n = 0; n < size && packed != all; n++) {
                int word = 0;
                for (int p = 0; p < size; p++) {
                    if (mayEnter(p, packed, word) && (weak[p] & ~(packed | word)) == 0) {
                        word |= 1 << p;
                    }
                }
                packing[n] = word;
                packed |= word;
                count = n + 1;
            }
        }

        /** Whether strict dependences and units let a position into a word behind the packed ones. */
        private boolean mayEnter(int p, int packed, int word) {
            return ((packed | word) & 1 << p) == 0
                    && (strict[p] & ~packed) == 0
                    && (ofUnit[unitOf[p]] & word) == 0;
        }

        /**
         * Tries ever more words. Sets are tried from the greatest down, so the first packing that is
         * found with the fewest words is the one that is wanted.
         */
        private void packFewest() {
            search++;
            for (int n = 1; n <= size && count == 0; n++) {
                wanted = n;
                if (fits(0, 0)) {
                    count = n;
                }
            }
        }

        /** Packs all that is not packed yet into the words from index on; false if it does not fit. */
        private boolean fits(int packed, int index) {
            if (packed == (1 << size) - 1) {
                return true;
            }
            int left = wanted - index;
            if (left <= 0 || left < wordsNeeded(packed)) {
                return false;
            }
            int known = tooFew[packed];
            if (known >> 4 == search && left <= (known & 15)) {
                return false;
            }
            if (extend(packed, index, 0, urgent(packed, left), size)) {
                return true;
            }
            tooFew[packed] = search << 4 | left;
            return false;
        }

        /**
         * Goes on with the word at index: tries to add positions below a limit to it, the greatest set
         * first, and then to pack the rest. The needed positions must get into it.
         */
        private boolean extend(int packed, int index, int word, int needed, int limit) {
            for (int p = limit - 1; p >= 0; p--) {
                int bit = 1 << p;
                if (mayEnter(p, packed, word)) {
                    int neededThen = (needed | weak[p]) & ~(packed | bit);
                    if (extend(packed, index, word | bit, neededThen, p)) {
                        return true;
                    }
                }
                if ((needed & bit) != 0) {
                    return false;
                }
            }
            if (word == 0 || index >= size) {
                return false;
            }
            packing[index] = word;
            return fits(packed | word, index + 1);
        }

        private int wordsNeeded(int packed) {
            int needed = 0;
            for (int p = 0; p < size; p++) {
                if ((packed & 1 << p) == 0) {
                    needed = Math.max(needed, heights[p]);
                }
            }
            for (int u = 0; u < MAX_UNITS; u++) {
                needed = Math.max(needed, Integer.bitCount(ofUnit[u] & ~packed));
            }
            return needed;
        }

        /** The positions that cannot wait if only so many words are left. */
        private int urgent(int packed, int left) {
            int urgent = 0;
            for (int p = 0; p < size; p++) {
                if (heights[p] >= left) {
                    urgent |= 1 << p;
                }
            }
            return urgent & ~packed;
        }
    }

    /** The words of the instructions. */
    static final class Words {
        final int[] counts = new int[MAX_INSTRUCTIONS];
        final int[] chains = new int[MAX_INSTRUCTIONS];
        final int[] latencies = new int[MAX_INSTRUCTIONS];
        /** The words of instruction i begin at i * MAX_LENGTH. */
        final int[] sets = new int[MAX_POSITIONS];
        final boolean[] safe = new boolean[MAX_POSITIONS];

        void pack(Source source, int instruction, int mode, Packer packer) {
            int base = instruction * MAX_LENGTH;
            counts[instruction] = 0;
            chains[instruction] = 0;
            latencies[instruction] = 0;
            int begin = 0;
            for (int k = 0; k < MAX_LENGTH && begin < source.lengths[instruction]; k++) {
                int end = source.segmentEnd(instruction, begin);
                packer.pack(source, base + begin, base + end, mode);
                addSegment(source, instruction, base + begin, packer);
                begin = end;
            }
        }

        private void addSegment(Source source, int instruction, int first, Packer packer) {
            int at = instruction * MAX_LENGTH + counts[instruction];
            for (int n = 0; n < packer.count; n++) {
                sets[at + n] = operationsOf(source, first, packer.packing[n]);
                safe[at + n] = n == packer.count - 1;
            }
            counts[instruction] += packer.count;
            chains[instruction] += packer.depth;
            latencies[instruction] = Math.max(latencies[instruction], packer.count);
        }

        private static int operationsOf(Source source, int first, int positions) {
            int operations = 0;
            for (int p = 0; p < MAX_SEGMENT; p++) {
                if ((positions & 1 << p) != 0) {
                    operations |= 1 << source.sequence[first + p];
                }
            }
            return operations;
        }
    }

    /** The words of the store. */
    static final class Store {
        final int[] sets = new int[MAX_POSITIONS];
        final boolean[] safe = new boolean[MAX_POSITIONS];
        final int[] next = new int[MAX_POSITIONS];
        final int[] entries = new int[MAX_INSTRUCTIONS];
        int size = 0;

        /** Puts the words of an instruction behind those that are there, without those that it can share. */
        void place(int instruction, Words words) {
            int base = instruction * MAX_LENGTH;
            int own = words.counts[instruction];
            int shared = NONE;
            for (int n = own - 1; n >= 0; n--) {
                int equal = equalBefore(shared, words.sets[base + n], words.safe[base + n]);
                if (equal == NONE) {
                    break;
                }
                shared = equal;
                own = n;
            }
            entries[instruction] = own == 0 ? shared : size;
            for (int n = 0; n < own && size < MAX_POSITIONS; n++) {
                sets[size] = words.sets[base + n];
                safe[size] = words.safe[base + n];
                next[size] = n == own - 1 ? shared : size + 1;
                size++;
            }
        }

        /** The address of such a word that is followed by that address. */
        private int equalBefore(int following, int set, boolean isSafe) {
            for (int a = 0; a < size; a++) {
                if (next[a] == following && sets[a] == set && safe[a] == isSafe) {
                    return a;
                }
            }
            return NONE;
        }

        int users(int address, int instructions) {
            int count = 0;
            for (int i = 0; i < instructions; i++) {
                int a = entries[i];
                for (int n = 0; n < MAX_LENGTH && a != NONE && a != address; n++) {
                    a = next[a];
                }
                if (a == address) {
                    count++;
                }
            }
            return count;
        }
    }

    /** The encoding of the control fields; here a set is a bit mask of operations. */
    static final class Fields {
        /** The bits of a field with so many operations. */
        private static final int[] BITS = {0, 1, 2, 2, 3, 3, 3, 3, 4, 4, 4, 4, 4};
        /** The fewest bits of two fields or more with so many operations together. */
        private static final int[] PARTED_BITS = {0, 0, 2, 3, 3, 4, 4, 4, 4, 5, 5, 5, 5};
        /** A cost is this times the bits plus the number of fields, which is never so great. */
        private static final int BIT_COST = 16;
        private static final int NO_COST = 1 << 20;
        /** A call of the search for every field and one for every operation. */
        private static final int MAX_DEPTH = 2 * MAX_OPERATIONS;

        /** Fields are searched for only when they are asked for after a new store. */
        boolean isKnown = false;
        int count = 0;
        int bits = 0;
        final int[] numbers = new int[MAX_OPERATIONS];
        final int[] codes = new int[MAX_OPERATIONS];
        /** How many bits of a control are below the code. */
        private final int[] shifts = new int[MAX_OPERATIONS];
        private final int[] together = new int[MAX_OPERATIONS];
        /** For a set of operations: a cost that is not greater than the least one; 0 if none is known yet. */
        private final int[] costs = new int[1 << MAX_OPERATIONS];
        /** For a set of operations that has been divided: its first field. */
        private final int[] firstFields = new int[1 << MAX_OPERATIONS];

        void know(Store store) {
            if (!isKnown) {
                isKnown = true;
                int used = collect(store);
                search(used);
                divide(used);
            }
        }

        /** Notes which operations are together; answers those that are used. */
        private int collect(Store store) {
            Arrays.fill(together, 0);
            int used = 0;
            for (int a = 0; a < store.size; a++) {
                int set = store.sets[a];
                used |= set;
                for (int m = 0; m < MAX_OPERATIONS; m++) {
                    if ((set & 1 << m) != 0) {
                        together[m] |= set & ~(1 << m);
                    }
                }
            }
            return used;
        }

        /** Takes the fields that the search has found. */
        private void divide(int used) {
            Arrays.fill(numbers, NONE);
            Arrays.fill(codes, 0);
            count = 0;
            bits = 0;
            int rest = used;
            for (int n = 0; n < MAX_OPERATIONS && rest != 0; n++) {
                int field = firstFields[rest];
                addField(field);
                rest &= ~field;
            }
        }

        private void addField(int field) {
            int size = 0;
            for (int m = 0; m < MAX_OPERATIONS; m++) {
                if ((field & 1 << m) != 0) {
                    size++;
                    numbers[m] = count;
                    codes[m] = size;
                    shifts[m] = bits;
                }
            }
            bits += BITS[size];
            count++;
        }

        /**
         * Tries ever greater costs, beginning with one that is surely not too great. Fields are tried from
         * the least up, so the first ones that are found with the least cost are those that are wanted.
         */
        private void search(int used) {
            Arrays.fill(costs, 0);
            boolean isFound = false;
            for (int n = 0; n < BIT_COST * (MAX_OPERATIONS + 1) && !isFound; n++) {
                int budget = costAtLeast(used);
                isFound = costWithin(used, budget, 0) <= budget;
            }
        }

        /**
         * Looks for fields of a set whose cost is within a budget, and answers their cost; if there are none,
         * a cost above the budget that is not greater than the least one.
         */
        private int costWithin(int set, int budget, int depth) {
            int known = costAtLeast(set);
            if (known > budget || set == 0) {
                return known;
            }
            if (depth > MAX_DEPTH) {
                return NO_COST;
            }
            if (isField(set)) {
                firstFields[set] = set;
                return known;
            }
            int lowest = set & -set;
            int open = set & ~lowest & ~together[Integer.bitCount(lowest - 1)];
            costs[set] = growField(set, lowest, open, budget, depth + 1);
            return costs[set];
        }

        /** The same for those first fields that consist of a field and of any open operations. */
        private int growField(int set, int field, int open, int budget, int depth) {
            int own = costOf(field);
            int least = own + costAtLeast(set & ~(field | open));
            if (least > budget) {
                return least;
            }
            if (depth > MAX_DEPTH) {
                return NO_COST;
            }
            least = own + costWithin(set & ~field, budget - own, depth + 1);
            if (least <= budget) {
                firstFields[set] = field;
                return least;
            }
            for (int m = 0; m < MAX_OPERATIONS && least > budget; m++) {
                int bit = 1 << m;
                if ((open & bit) != 0) {
                    int openBelow = open & (bit - 1) & ~together[m];
                    least = Math.min(least, growField(set, field | bit, openBelow, budget, depth + 1));
                }
            }
            return least;
        }

        private boolean isField(int set) {
            for (int m = 0; m < MAX_OPERATIONS; m++) {
                if ((set & 1 << m) != 0 && (set & together[m]) != 0) {
                    return false;
                }
            }
            return true;
        }

        private static int costOf(int field) {
            return BIT_COST * BITS[Integer.bitCount(field)] + 1;
        }

        private int costAtLeast(int set) {
            if (costs[set] == 0 && set != 0) {
                costs[set] = isField(set) ? costOf(set) : BIT_COST * PARTED_BITS[Integer.bitCount(set)] + 2;
            }
            return costs[set];
        }

        long encode(int set, boolean isSafe) {
            long control = isSafe ? 1L << bits : 0;
            for (int m = 0; m < MAX_OPERATIONS; m++) {
                if ((set & 1 << m) != 0) {
                    control |= (long) codes[m] << shifts[m];
                }
            }
            return control;
        }
    }

    /** The registers, and the execution of operations and words. */
    static final class Processor {
        final int[] registers = new int[MAX_REGISTERS];
        /** The word that is executed next; NONE if the processor is idle. */
        int address = NONE;
        private final int[] values = new int[MAX_OPERATIONS];
        private final int[] fromSource = new int[MAX_REGISTERS];
        private final int[] fromStore = new int[MAX_REGISTERS];

        void runSequence(Source source, int instruction, int[] on) {
            int base = instruction * MAX_LENGTH;
            for (int k = 0; k < source.lengths[instruction]; k++) {
                int operation = source.sequence[base + k];
                on[source.targets[operation]] = valueOf(source, operation, on);
            }
        }

        /** Executes words up to a safe one that is at least so many words from here, or to the end. */
        int runWords(Source source, Store store, int words) {
            int executed = 0;
            boolean isTaken = false;
            while (address != NONE && !isTaken && executed < MAX_LENGTH) {
                int a = address;
                execute(source, store.sets[a], registers);
                executed++;
                address = store.next[a];
                isTaken = executed >= words && store.safe[a];
            }
            return executed;
        }

        boolean agreesOn(Source source, Store store, int instruction) {
            System.arraycopy(registers, 0, fromSource, 0, MAX_REGISTERS);
            System.arraycopy(registers, 0, fromStore, 0, MAX_REGISTERS);
            runSequence(source, instruction, fromSource);
            int a = store.entries[instruction];
            for (int n = 0; n < MAX_LENGTH && a != NONE; n++) {
                execute(source, store.sets[a], fromStore);
                a = store.next[a];
            }
            for (int r = 0; r < MAX_REGISTERS; r++) {
                if (fromSource[r] != fromStore[r]) {
                    return false;
                }
            }
            return true;
        }

        /** All operands of a word are read before any target is written. */
        private void execute(Source source, int set, int[] on) {
            for (int m = 0; m < MAX_OPERATIONS; m++) {
                if ((set & 1 << m) != 0) {
                    values[m] = valueOf(source, m, on);
                }
            }
            for (int m = 0; m < MAX_OPERATIONS; m++) {
                if ((set & 1 << m) != 0) {
                    on[source.targets[m]] = values[m];
                }
            }
        }

        private static int valueOf(Source source, int operation, int[] on) {
            int first = operandValue(source.firsts[operation], on);
            int second = operandValue(source.seconds[operation], on);
            switch (source.kinds[operation]) {
                case 0:
                    return first;
                case 1:
                    return first + second;
                case 2:
                    return first - second;
                case 3:
                    return first * second;
                case 4:
                    return first & second;
                case 5:
                    return first | second;
                default:
                    return first ^ second;
            }
        }

        private static int operandValue(int operand, int[] on) {
            return operand < 0 ? on[~operand] : operand;
        }
    }
}
