import java.util.ArrayDeque;
import java.util.ArrayList;
import java.util.Arrays;
import java.util.HashMap;
import java.util.List;
import java.util.Map;
import java.util.NoSuchElementException;

/**
 * The document once more, word for word and without any thought of speed: nothing is kept but the
 * source, and every answer is made anew from it. RandomRunsTest compares the program with it.
 */
final class Model {
    record Operand(boolean isRegister, int value) { }

    record Operation(String name, int unit, int target, char sign, Operand first, Operand second) {
        boolean reads(int register) {
            return first.isRegister && first.value == register
                    || second != null && second.isRegister && second.value == register;
        }

        int result(int[] r) {
            int a = first.isRegister ? r[first.value] : first.value;
            if (second == null) {
                return a;
            }
            int b = second.isRegister ? r[second.value] : second.value;
            return switch (sign) {
                case '+' -> a + b;
                case '-' -> a - b;
                case '*' -> a * b;
                case '&' -> a & b;
                case '|' -> a | b;
                default -> a ^ b;
            };
        }
    }

    static final class Instruction {
        String name;
        final List<Integer> sequence = new ArrayList<>();
        final List<Boolean> marks = new ArrayList<>();
    }

    record Word(int set, boolean safe) { }

    record Stored(int set, boolean safe, int next) { }

    record Change(int instruction, int index, int former) { }

    record Token(String text, int offset, char type) { }

    static final class TextError extends RuntimeException {
        private static final long serialVersionUID = 1;
        final int code;

        TextError(Token at, int kind) {
            code = 8 * at.offset + kind;
        }
    }

    private final List<Byte> buffer = new ArrayList<>();
    private String output = "";
    private List<Operation> operations = new ArrayList<>();
    private List<Instruction> instructions = new ArrayList<>();
    private int mode = 0;
    private final ArrayDeque<Change> changes = new ArrayDeque<>();
    private int[] registers = new int[8];
    private int next = -1;
    private int entrySought = -1;
    private static final Map<String, List<Integer>> FEWEST = new HashMap<>();
    private static final Map<String, List<Integer>> DIVIDED = new HashMap<>();

    public int append(int a, int b, int c, int d, int e) {
        if (buffer.size() > 1180) {
            return -1;
        }
        for (int x : new int[] {a, b, c, d, e}) {
            buffer.add((byte) (x >> 24));
            buffer.add((byte) (x >> 16));
            buffer.add((byte) (x >> 8));
            buffer.add((byte) x);
        }
        return buffer.size();
    }

    public boolean truncate(int length) {
        if (length < 0 || length > buffer.size()) {
            return false;
        }
        buffer.subList(length, buffer.size()).clear();
        return true;
    }

    public int bufferLength() {
        return buffer.size();
    }

    private String takeBuffer() {
        StringBuilder text = new StringBuilder();
        for (byte b : buffer) {
            text.append((char) (b & 255));
        }
        buffer.clear();
        return text.toString();
    }

    // Types of tokens: n NAME, r REG, d NUMBER, k a word in quotation marks, s a single byte, ? invalid, e the end.
    private static List<Token> tokens(String text) {
        List<Token> list = new ArrayList<>();
        int at = 0;
        while (at < text.length()) {
            String rest = text.substring(at);
            String run;
            char type;
            if (rest.matches("(?s)[ \n].*")) {
                at++;
                continue;
            } else if (rest.matches("(?s)[a-z].*")) {
                run = rest.replaceFirst("(?s)[^a-z0-9].*", "");
                type = run.matches("r[0-7]") ? 'r' : run.matches("op|unit|instr") ? 'k' : run.length() > 8 ? '?' : 'n';
            } else if (rest.matches("(?s)[0-9].*")) {
                run = rest.replaceFirst("(?s)[^0-9].*", "");
                type = run.length() > 4 ? '?' : 'd';
            } else {
                run = rest.substring(0, 1);
                type = "=;:,!+-*&|^".contains(run) ? 's' : '?';
            }
            list.add(new Token(run, at, type));
            at += run.length();
        }
        list.add(new Token("", text.length(), 'e'));
        return list;
    }

    private static Token expect(ArrayDeque<Token> tokens, String types, String texts) {
        Token t = tokens.remove();
        if (types.indexOf(t.type) < 0 || texts != null && !texts.contains(t.text)) {
            throw new TextError(t, 1);
        }
        return t;
    }

    private static Operand operand(ArrayDeque<Token> tokens) {
        Token t = expect(tokens, "rd", null);
        return t.type == 'r' ? new Operand(true, t.text.charAt(1) - '0') : new Operand(false, Integer.parseInt(t.text));
    }

    private static Operation readOperation(ArrayDeque<Token> tokens, List<String> names) {
        Token name = expect(tokens, "n", null);
        if (names.contains(name.text)) {
            throw new TextError(name, 3);
        }
        names.add(name.text);
        expect(tokens, "k", "unit");
        Token unit = expect(tokens, "d", null);
        if (Integer.parseInt(unit.text) > 5) {
            throw new TextError(unit, 2);
        }
        int target = expect(tokens, "r", null).text.charAt(1) - '0';
        expect(tokens, "s", "=");
        Operand first = operand(tokens);
        Operand second = null;
        Token sign = expect(tokens, "s", "+-*&|^;");
        if (!sign.text.equals(";")) {
            second = operand(tokens);
            expect(tokens, "s", ";");
        }
        return new Operation(name.text, Integer.parseInt(unit.text), target, sign.text.charAt(0), first, second);
    }

    private static Instruction readInstruction(ArrayDeque<Token> tokens, List<String> names, List<Operation> operations) {
        Instruction made = new Instruction();
        Token name = expect(tokens, "n", null);
        if (names.contains(name.text)) {
            throw new TextError(name, 3);
        }
        names.add(name.text);
        made.name = name.text;
        expect(tokens, "s", ":");
        int inSegment = 0;
        while (true) {
            Token t = expect(tokens, "n", null);
            int found = -1;
            for (int i = 0; i < operations.size(); i++) {
                found = operations.get(i).name.equals(t.text) ? i : found;
            }
            if (found < 0) {
                throw new TextError(t, 4);
            }
            if (made.sequence.size() == 24 || inSegment == 10) {
                throw new TextError(t, 5);
            }
            made.sequence.add(found);
            Token behind = expect(tokens, "s", ",!;");
            made.marks.add(behind.text.equals("!"));
            inSegment = behind.text.equals("!") ? 0 : inSegment + 1;
            if (behind.text.equals(";")) {
                return made;
            }
        }
    }

    public int load() {
        ArrayDeque<Token> tokens = new ArrayDeque<>(tokens(takeBuffer()));
        List<Operation> newOperations = new ArrayList<>();
        List<Instruction> newInstructions = new ArrayList<>();
        List<String> names = new ArrayList<>();
        try {
            while (tokens.peek().type != 'e') {
                Token t = tokens.remove();
                if (t.text.equals("op") && newInstructions.isEmpty()) {
                    if (newOperations.size() == 12) {
                        throw new TextError(t, 5);
                    }
                    newOperations.add(readOperation(tokens, names));
                } else if (t.text.equals("instr")) {
                    if (newInstructions.size() == 8) {
                        throw new TextError(t, 5);
                    }
                    newInstructions.add(readInstruction(tokens, names, newOperations));
                } else {
                    throw new TextError(t, 1);
                }
            }
        } catch (TextError e) {
            return -e.code;
        }
        operations = newOperations;
        instructions = newInstructions;
        changes.clear();
        next = -1;
        return instructions.size();
    }

    public int find() {
        String name = takeBuffer();
        for (int i = 0; i < operations.size(); i++) {
            if (operations.get(i).name.equals(name)) {
                return i;
            }
        }
        for (int i = 0; i < instructions.size(); i++) {
            if (instructions.get(i).name.equals(name)) {
                return 100 + i;
            }
        }
        return -1;
    }

    private static String text(Operand operand) {
        return (operand.isRegister ? "r" : "") + operand.value;
    }

    public int write() {
        output = "";
        for (Operation o : operations) {
            output += "op " + o.name + " unit " + o.unit + " r" + o.target + "=" + text(o.first)
                    + (o.second == null ? "" : o.sign + text(o.second)) + ";";
        }
        for (Instruction i : instructions) {
            output += "instr " + i.name + ":";
            for (int k = 0; k < i.sequence.size(); k++) {
                output += operations.get(i.sequence.get(k)).name
                        + (k == i.sequence.size() - 1 ? ";" : i.marks.get(k) ? "!" : ",");
            }
        }
        return output.length();
    }

    public int outputByte(int index) {
        if (index < 0 || index >= output.length()) {
            throw new NoSuchElementException();
        }
        return output.charAt(index);
    }

    public int operationCount() {
        return operations.size();
    }

    public int instructionCount() {
        return instructions.size();
    }

    private Operation operationOf(int operation) {
        if (operation < 0 || operation >= operations.size()) {
            throw new IndexOutOfBoundsException();
        }
        return operations.get(operation);
    }

    private Instruction instructionOf(int instruction) {
        if (instruction < 0 || instruction >= instructions.size()) {
            throw new IndexOutOfBoundsException();
        }
        return instructions.get(instruction);
    }

    private Instruction instructionOf(int instruction, int index) {
        Instruction found = instructionOf(instruction);
        if (index < 0 || index >= found.sequence.size()) {
            throw new IndexOutOfBoundsException();
        }
        return found;
    }

    public int operation(int operation, int what) {
        Operation o = operationOf(operation);
        switch (what) {
            case 0:
                return o.unit;
            case 1:
                return o.target;
            case 2:
                return o.second == null ? 0 : 1 + "+-*&|^".indexOf(o.sign);
            case 3:
                int mask = 0;
                for (int r = 0; r < 8; r++) {
                    mask += o.reads(r) ? 1 << r : 0;
                }
                return mask;
            case 4:
                int count = 0;
                for (Instruction i : instructions) {
                    for (int m : i.sequence) {
                        count += m == operation ? 1 : 0;
                    }
                }
                return count;
            default:
                throw new IllegalArgumentException();
        }
    }

    public int length(int instruction) {
        return instructionOf(instruction).sequence.size();
    }

    public int operationAt(int instruction, int index) {
        return instructionOf(instruction, index).sequence.get(index);
    }

    public boolean hasMark(int instruction, int index) {
        return instructionOf(instruction, index).marks.get(index);
    }

    private int tie(int i, int j) {
        Operation a = operations.get(i);
        Operation b = operations.get(j);
        return b.reads(a.target) || a.target == b.target ? 2 : a.reads(b.target) ? 1 : 0;
    }

    public int dependence(int instruction, int first, int second) {
        instructionOf(instruction, first);
        Instruction i = instructionOf(instruction, second);
        if (first >= second) {
            return 0;
        }
        return i.marks.subList(first, second).contains(true) ? 3 : tie(i.sequence.get(first), i.sequence.get(second));
    }

    private void changed(Change change) {
        changes.addLast(change);
        if (changes.size() > 8) {
            changes.removeFirst();
        }
        next = -1;
    }

    public int setMode(int mode) {
        if (mode < 0 || mode > 2) {
            throw new IllegalArgumentException();
        }
        changed(new Change(-1, -1, this.mode));
        this.mode = mode;
        return storeSize();
    }

    public int mode() {
        return mode;
    }

    public int setMark(int instruction, int index, boolean isThere) {
        Instruction i = instructionOf(instruction, index);
        if (index == i.sequence.size() - 1) {
            throw new IndexOutOfBoundsException();
        }
        boolean former = i.marks.get(index);
        i.marks.set(index, isThere);
        for (List<Integer> segment : segments(i)) {
            if (segment.size() > 10) {
                i.marks.set(index, former);
                throw new IllegalStateException();
            }
        }
        changed(new Change(instruction, index, former ? 1 : 0));
        return storeSize();
    }

    public int undo() {
        if (changes.isEmpty()) {
            return -1;
        }
        Change last = changes.removeLast();
        if (last.instruction < 0) {
            mode = last.former;
        } else {
            instructions.get(last.instruction).marks.set(last.index, last.former == 1);
        }
        next = -1;
        return changes.size();
    }

    private static List<List<Integer>> segments(Instruction i) {
        List<List<Integer>> segments = new ArrayList<>();
        List<Integer> segment = new ArrayList<>();
        for (int k = 0; k < i.sequence.size(); k++) {
            segment.add(i.sequence.get(k));
            if (i.marks.get(k) || k == i.sequence.size() - 1) {
                segments.add(segment);
                segment = new ArrayList<>();
            }
        }
        return segments;
    }

    /** Whether a set of positions may be the next word behind those that are packed. */
    private boolean isAllowed(List<Integer> segment, int packed, int word, boolean withUnits) {
        for (int j = 0; j < segment.size(); j++) {
            for (int i = 0; i < segment.size() && (word & 1 << j) != 0; i++) {
                boolean isEarlier = (packed & 1 << i) != 0;
                boolean isHere = (word & 1 << i) != 0;
                int tie = i < j ? tie(segment.get(i), segment.get(j)) : 0;
                if (tie == 2 && !isEarlier || tie == 1 && !isEarlier && !isHere) {
                    return false;
                }
                if (withUnits && i != j && isHere
                        && operations.get(segment.get(i)).unit == operations.get(segment.get(j)).unit) {
                    return false;
                }
            }
        }
        return true;
    }

    private List<Integer> packOf(List<Integer> segment, int how, boolean withUnits) {
        List<Integer> words = new ArrayList<>();
        if (how == 0) {
            for (int p = 0; p < segment.size(); p++) {
                words.add(1 << p);
            }
            return words;
        }
        if (how == 2) {
            StringBuilder key = new StringBuilder();
            for (int m : segment) {
                key.append(operations.get(m)).append(withUnits);
            }
            return FEWEST.computeIfAbsent(key.toString(), k -> fewest(segment, withUnits));
        }
        int packed = 0;
        while (packed != (1 << segment.size()) - 1) {
            int word = 0;
            for (int p = 0; p < segment.size(); p++) {
                if ((packed & 1 << p) == 0 && isAllowed(segment, packed, word | 1 << p, true)) {
                    word |= 1 << p;
                }
            }
            words.add(word);
            packed |= word;
        }
        return words;
    }

    /** The best packing of what is left of every set, from the full set down; every word is tried. */
    private List<Integer> fewest(List<Integer> segment, boolean withUnits) {
        int all = (1 << segment.size()) - 1;
        List<List<Integer>> best = new ArrayList<>();
        for (int packed = 0; packed <= all; packed++) {
            best.add(null);
        }
        best.set(all, new ArrayList<>());
        for (int packed = all - 1; packed >= 0; packed--) {
            for (int word = 1; word <= all; word++) {
                if ((word & packed) != 0 || best.get(packed | word) == null
                        || !isAllowed(segment, packed, word, withUnits)) {
                    continue;
                }
                List<Integer> found = new ArrayList<>(List.of(word));
                found.addAll(best.get(packed | word));
                if (isBetterPacking(found, best.get(packed))) {
                    best.set(packed, found);
                }
            }
        }
        return best.get(0);
    }

    private static boolean isBetterPacking(List<Integer> a, List<Integer> b) {
        if (b == null || a.size() != b.size()) {
            return b == null || a.size() < b.size();
        }
        for (int n = 0; n < a.size(); n++) {
            if (!a.get(n).equals(b.get(n))) {
                return a.get(n) > b.get(n);
            }
        }
        return false;
    }

    private List<Word> wordsOf(Instruction i) {
        List<Word> words = new ArrayList<>();
        for (List<Integer> segment : segments(i)) {
            List<Integer> packing = packOf(segment, mode, true);
            for (int n = 0; n < packing.size(); n++) {
                int set = 0;
                for (int p = 0; p < segment.size(); p++) {
                    set |= (packing.get(n) & 1 << p) != 0 ? 1 << segment.get(p) : 0;
                }
                words.add(new Word(set, n == packing.size() - 1));
            }
        }
        return words;
    }

    public int wordCount(int instruction) {
        return wordsOf(instructionOf(instruction)).size();
    }

    public int word(int instruction, int index) {
        List<Word> words = wordsOf(instructionOf(instruction));
        if (index < 0 || index >= words.size()) {
            throw new IndexOutOfBoundsException();
        }
        return words.get(index).set;
    }

    public int chain(int instruction) {
        int sum = 0;
        for (List<Integer> segment : segments(instructionOf(instruction))) {
            sum += packOf(segment, 2, false).size();
        }
        return sum;
    }

    public int latency(int instruction) {
        int greatest = 0;
        for (List<Integer> segment : segments(instructionOf(instruction))) {
            greatest = Math.max(greatest, packOf(segment, mode, true).size());
        }
        return greatest;
    }

    /** Whether the words of the store from an address on to the end are these. */
    private static boolean isAt(List<Stored> store, int address, List<Word> words) {
        int at = address;
        for (Word w : words) {
            if (at == -1 || store.get(at).set != w.set || store.get(at).safe != w.safe) {
                return false;
            }
            at = store.get(at).next;
        }
        return at == -1;
    }

    /** Fills a store with the first instructions; the entry of the last one of them is kept. */
    private List<Stored> storeOf(int count) {
        List<Stored> store = new ArrayList<>();
        for (int i = 0; i < count; i++) {
            List<Word> words = wordsOf(instructions.get(i));
            int least = words.size();
            int equal = -1;
            for (int k = words.size() - 1; k >= 0; k--) {
                for (int a = 0; a < store.size(); a++) {
                    if (isAt(store, a, words.subList(k, words.size()))) {
                        least = k;
                        equal = a;
                    }
                }
            }
            entrySought = least == 0 ? equal : store.size();
            for (int n = 0; n < least; n++) {
                Word w = words.get(n);
                store.add(new Stored(w.set, w.safe, n == least - 1 ? equal : store.size() + 1));
            }
        }
        return store;
    }

    public int storeSize() {
        return storeOf(instructions.size()).size();
    }

    public int entry(int instruction) {
        instructionOf(instruction);
        storeOf(instruction + 1);
        return entrySought;
    }

    private Stored storedAt(int address) {
        List<Stored> store = storeOf(instructions.size());
        if (address < 0 || address >= store.size()) {
            throw new IndexOutOfBoundsException();
        }
        return store.get(address);
    }

    public int store(int address, int what) {
        Stored w = storedAt(address);
        switch (what) {
            case 0:
                return w.set;
            case 1:
                return w.safe ? 1 : 0;
            case 2:
                return w.next;
            case 3:
                int users = 0;
                for (int i = 0; i < instructions.size(); i++) {
                    for (int a = entry(i); a != -1; a = storedAt(a).next) {
                        users += a == address ? 1 : 0;
                    }
                }
                return users;
            default:
                throw new IllegalArgumentException();
        }
    }

    private static int bitsOf(int field) {
        int b = 0;
        while (1 << b <= Integer.bitCount(field)) {
            b++;
        }
        return b;
    }

    private static int bitsOf(List<Integer> fields) {
        return fields.stream().mapToInt(Model::bitsOf).sum();
    }

    private List<Integer> fieldsNow() {
        int used = 0;
        int[] together = new int[12];
        for (Stored w : storeOf(instructions.size())) {
            used |= w.set;
            for (int m = 0; m < 12; m++) {
                together[m] |= (w.set & 1 << m) != 0 ? w.set & ~(1 << m) : 0;
            }
        }
        int of = used;
        return DIVIDED.computeIfAbsent(used + Arrays.toString(together), k -> {
            List<List<Integer>> best = new ArrayList<>();
            divide(of, 0, together, new ArrayList<>(), best);
            return best.get(0);
        });
    }

    /** Goes through all divisions, operation by operation, but for those that have too many bits already. */
    private static void divide(int used, int m, int[] together, List<Integer> fields, List<List<Integer>> best) {
        if (!best.isEmpty() && bitsOf(fields) > bitsOf(best.get(0))) {
            return;
        }
        if (m == 12) {
            if (best.isEmpty() || isBetterDivision(fields, best.get(0))) {
                best.clear();
                best.add(new ArrayList<>(fields));
            }
            return;
        }
        if ((used & 1 << m) == 0) {
            divide(used, m + 1, together, fields, best);
            return;
        }
        for (int f = 0; f < fields.size(); f++) {
            int field = fields.get(f);
            if ((field & together[m]) == 0) {
                fields.set(f, field | 1 << m);
                divide(used, m + 1, together, fields, best);
                fields.set(f, field);
            }
        }
        fields.add(1 << m);
        divide(used, m + 1, together, fields, best);
        fields.remove(fields.size() - 1);
    }

    private static boolean isBetterDivision(List<Integer> a, List<Integer> b) {
        if (bitsOf(a) != bitsOf(b)) {
            return bitsOf(a) < bitsOf(b);
        }
        if (a.size() != b.size()) {
            return a.size() < b.size();
        }
        for (int f = 0; f < a.size(); f++) {
            if (!a.get(f).equals(b.get(f))) {
                return a.get(f) < b.get(f);
            }
        }
        return false;
    }

    public int fieldCount() {
        return fieldsNow().size();
    }

    public int fieldBits() {
        return bitsOf(fieldsNow());
    }

    public int fieldOf(int operation) {
        operationOf(operation);
        List<Integer> fields = fieldsNow();
        for (int f = 0; f < fields.size(); f++) {
            if ((fields.get(f) & 1 << operation) != 0) {
                return f;
            }
        }
        return -1;
    }

    public int codeOf(int operation) {
        int f = fieldOf(operation);
        return f == -1 ? 0 : 1 + Integer.bitCount(fieldsNow().get(f) & ((1 << operation) - 1));
    }

    public long control(int address) {
        Stored w = storedAt(address);
        List<Integer> fields = fieldsNow();
        long control = w.safe ? 1 : 0;
        for (int f = fields.size() - 1; f >= 0; f--) {
            control <<= bitsOf(fields.get(f));
            for (int m = 0; m < 12; m++) {
                control += (fields.get(f) & w.set & 1 << m) != 0 ? codeOf(m) : 0;
            }
        }
        return control;
    }

    public int setRegister(int register, int value) {
        int former = register(register);
        registers[register] = value;
        return former;
    }

    public int register(int register) {
        if (register < 0 || register > 7) {
            throw new IndexOutOfBoundsException();
        }
        return registers[register];
    }

    public int runSource(int instruction) {
        Instruction i = instructionOf(instruction);
        if (next != -1) {
            throw new IllegalStateException();
        }
        for (int m : i.sequence) {
            registers[operations.get(m).target] = operations.get(m).result(registers);
        }
        return i.sequence.size();
    }

    private void executeNext() {
        Stored w = storedAt(next);
        int[] then = registers.clone();
        for (int m = 0; m < operations.size(); m++) {
            if ((w.set & 1 << m) != 0) {
                then[operations.get(m).target] = operations.get(m).result(registers);
            }
        }
        registers = then;
        next = w.next;
    }

    public int start(int instruction, int words) {
        instructionOf(instruction);
        if (words < 0) {
            throw new IllegalArgumentException();
        }
        if (next != -1) {
            throw new IllegalStateException();
        }
        next = entry(instruction);
        if (words == 0) {
            return 0;
        }
        int executed = 0;
        while (next != -1) {
            boolean isSafe = storedAt(next).safe;
            executeNext();
            executed++;
            if (isSafe && executed >= words) {
                break;
            }
        }
        return executed;
    }

    public int resume() {
        if (next == -1) {
            throw new IllegalStateException();
        }
        int executed = 0;
        while (next != -1) {
            executeNext();
            executed++;
        }
        return executed;
    }

    public int address() {
        return next;
    }

    public boolean agrees(int instruction) {
        instructionOf(instruction);
        int[] before = registers.clone();
        int nextBefore = next;
        next = -1;
        runSource(instruction);
        int[] fromSource = registers;
        registers = before.clone();
        start(instruction, Integer.MAX_VALUE);
        boolean isEqual = Arrays.equals(fromSource, registers);
        registers = before;
        next = nextBefore;
        return isEqual;
    }
}
