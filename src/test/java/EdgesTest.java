/** The edges of promises 1 to 38, and of "Changes": the last values that are allowed, and what the calls do there. */
public final class EdgesTest {
    private static final Check CHECK = new Check();
    private static final Twins TWINS = new Twins(CHECK);
    private static final int MAX = Integer.MAX_VALUE;
    private static final int MIN = Integer.MIN_VALUE;
    private static final String OP_A = Sources.OP_A;
    private static final String THREE = "op a unit 0 r0=r0+1;op b unit 1 r1=2;op c unit 1 r2=3;";

    public static void main(String[] args) {
        newObject();
        appendBytes();
        appendLengths();
        truncateLengths();
        truncateThenAppend();
        loadAnswers();
        loadKeepsAndForgets();
        findNumbers();
        findChangesNothingElse();
        findEveryByte();
        writeNothing();
        writeMost();
        outputUntilTheNextWrite();
        sequenceEnds();
        dependenceEdges();
        dependenceInTheLast();
        modesKeptAndUndone();
        marksAtBothEnds();
        undoOfSevenEightNine();
        undoAfterUndo();
        undoOfMarksAcrossInstructions();
        undoBackToLongSegments();
        registersAreNoChanges();
        failedLoadForgetsNothing();
        loadForgetsChanges();
        whatMakesIdle();
        whatDoesNotMakeIdle();
        wordsAndLatencies();
        fieldsOfUnused();
        fieldsAskedFirst();
        registerValues();
        runSourceAnswers();
        startAfterEachNumber();
        startAtTheEnd();
        startInSharedWords();
        resumePassesSafeWords();
        agreesAtTheEdges();
        CHECK.end();
    }

    // ---- promise 1

    private static void newObject() {
        MicrocodeOptimizer x = new MicrocodeOptimizer();
        CHECK.due("all answers of a new object", Twins.visible(x),
                "buffer 0 mode 0 address -1 fields 0 bits 0 registers 0 0 0 0 0 0 0 0 store  controls");
        CHECK.due("its output", Twins.output(x), " end");
        CHECK.due("operationCount", x.operationCount(), 0);
        CHECK.due("instructionCount", x.instructionCount(), 0);
        CHECK.due("find in an empty buffer", x.find(), -1);
        CHECK.due("undo", x.undo(), -1);
        CHECK.due("write", x.write(), 0);
        CHECK.due("load of an empty buffer", x.load(), 0);
        CHECK.due("all answers then", Twins.visible(x), Twins.visible(new MicrocodeOptimizer()));
    }

    // ---- promises 2 to 4

    /** "the four bytes of each argument, most significant byte first" */
    private static void appendBytes() {
        for (int at = 0; at < 20; at++) {
            for (int c : new int[] {0, 127, 128, 255}) {
                byte[] bytes = new byte[20];
                java.util.Arrays.fill(bytes, (byte) ' ');
                bytes[at] = (byte) c;
                MicrocodeOptimizer x = new MicrocodeOptimizer();
                CHECK.due("append", x.append(Check.four(bytes, 0), Check.four(bytes, 4), Check.four(bytes, 8),
                        Check.four(bytes, 12), Check.four(bytes, 16)), 20);
                CHECK.due("byte " + c + " at " + at, x.load(), -(8 * at + 1));
            }
        }
        MicrocodeOptimizer x = new MicrocodeOptimizer();
        x.append(0x6f702061, 0x20756e69, 0x74203020, 0x72303d37, 0x3b202020);
        CHECK.due("op a unit 0 r0=7;", x.load(), 0);
        CHECK.due("written", Check.written(x), "op a unit 0 r0=7;");
        // A negative argument does not spill over into its neighbours.
        x.append(-1, 0, -1, 0, -1);
        CHECK.due("20 bytes", x.bufferLength(), 20);
        CHECK.due("the first of them", x.load(), -1);
    }

    /** "Returns the new length of the buffer; NONE .. if the length would exceed 1200 bytes." */
    private static void appendLengths() {
        for (int cut = 0; cut < 20; cut++) {
            MicrocodeOptimizer x = new MicrocodeOptimizer();
            x.append(0, 0, 0, 0, 0);
            CHECK.due("truncate", x.truncate(cut), true);
            int length = cut;
            while (length + 20 <= 1200) {
                length += 20;
                CHECK.due("append", x.append(1, 2, 3, 4, 5), length);
                CHECK.due("bufferLength", x.bufferLength(), length);
            }
            CHECK.due("append beyond", x.append(1, 2, 3, 4, 5), -1);
            CHECK.due("bufferLength stays", x.bufferLength(), length);
            CHECK.due("append beyond again", x.append(1, 2, 3, 4, 5), -1);
        }
    }

    /** "Returns true; false .. if length is negative or greater than the current length." */
    private static void truncateLengths() {
        MicrocodeOptimizer x = new MicrocodeOptimizer();
        Check.put(x, " ".repeat(1200));
        for (int length : new int[] {1200, 1199, 600, 20, 19, 1, 0}) {
            CHECK.due("truncate(" + (x.bufferLength() + 1) + ")", x.truncate(x.bufferLength() + 1), false);
            CHECK.due("truncate(" + length + ")", x.truncate(length), true);
            CHECK.due("bufferLength", x.bufferLength(), length);
            CHECK.due("truncate(-1)", x.truncate(-1), false);
            CHECK.due("bufferLength stays", x.bufferLength(), length);
        }
    }

    private static void truncateThenAppend() {
        MicrocodeOptimizer x = new MicrocodeOptimizer();
        Check.put(x, "op a unit 0 r0=1;????");
        CHECK.due("truncate(15)", x.truncate(15), true);
        byte[] more = "r7;instr x:a!a,a;   ".getBytes();
        CHECK.due("append", x.append(Check.four(more, 0), Check.four(more, 4), Check.four(more, 8), Check.four(more, 12),
                Check.four(more, 16)), 35);
        CHECK.due("load", x.load(), 1);
        CHECK.due("written", Check.written(x), "op a unit 0 r0=r7;instr x:a!a,a;");
    }

    // ---- promise 5

    private static void loadAnswers() {
        for (int n = 0; n <= 8; n++) {
            CHECK.dueLoad(OP_A + Sources.singles(n), n);
        }
        CHECK.dueLoad("", 0);
        CHECK.dueError("?", 0, 1);
        CHECK.dueError("op" + " ".repeat(1198), 1200, 1);
    }

    /** "which replaces the present one. The registers stay." "the mode stays" */
    private static void loadKeepsAndForgets() {
        for (int mode = 0; mode <= 2; mode++) {
            MicrocodeOptimizer x = Check.loaded(Sources.fullest(), mode);
            for (int r = 0; r < 8; r++) {
                x.setRegister(r, MIN + r);
            }
            x.write();
            CHECK.due("load of less", Check.load(x, "op z unit 1 r0=1;op y unit 2 r1=1;instr x:z,y;"), 1);
            CHECK.due("bufferLength", x.bufferLength(), 0);
            CHECK.due("mode", x.mode(), mode);
            CHECK.due("operations", x.operationCount(), 2);
            CHECK.due("instructions", x.instructionCount(), 1);
            CHECK.due("words in this mode", Check.words(x, 0), mode == 0 ? "1 2" : "3");
            CHECK.due("the store", x.storeSize(), mode == 0 ? 2 : 1);
            CHECK.due("the fields", x.fieldCount(), mode == 0 ? 1 : 2);
            CHECK.due("a former operation", Check.find(x, "a"), -1);
            CHECK.due("a former instruction", Check.find(x, "i0"), -1);
            CHECK.due("no change", x.undo(), -1);
            for (int r = 0; r < 8; r++) {
                CHECK.due("register " + r, x.register(r), MIN + r);
            }
        }
    }

    // ---- promise 6

    /** "the number of the operation with this name, or 100 plus the number of the instruction" */
    private static void findNumbers() {
        MicrocodeOptimizer x = Check.loaded(Sources.fullest(), 0);
        for (int m = 0; m < 12; m++) {
            CHECK.due("find operation " + m, Check.find(x, "" + Sources.letter(m)), m);
            CHECK.due("the buffer is empty", x.bufferLength(), 0);
        }
        for (int i = 0; i < 8; i++) {
            CHECK.due("find instruction " + i, Check.find(x, "i" + i), 100 + i);
        }
        CHECK.due("a 13th operation", Check.find(x, "m"), -1);
        CHECK.due("a 9th instruction", Check.find(x, "i8"), -1);
        MicrocodeOptimizer y = Check.loaded("op abcdefgh unit 0 r0=1;op abcdefg unit 0 r0=1;instr zyxwvuts:abcdefgh;", 0);
        CHECK.due("eight characters", Check.find(y, "abcdefgh"), 0);
        CHECK.due("seven of them", Check.find(y, "abcdefg"), 1);
        CHECK.due("the last seven", Check.find(y, "bcdefgh"), -1);
        CHECK.due("nine characters", Check.find(y, "abcdefghi"), -1);
        CHECK.due("one more before", Check.find(y, "aabcdefgh"), -1);
        CHECK.due("an instruction of eight", Check.find(y, "zyxwvuts"), 100);
        CHECK.due("twice the name", Check.find(y, "abcdefghabcdefgh"), -1);
        CHECK.due("a long buffer", Check.find(y, " ".repeat(1192) + "abcdefgh"), -1);
    }

    private static void findChangesNothingElse() {
        for (String name : new String[] {"a", "x"}) {
            TWINS.dueAlike("find " + name, EdgesTest::busy, x -> Check.find(x, name), x -> { });
        }
    }

    /** An object with changes, registers and an output, interrupted. */
    private static MicrocodeOptimizer busy() {
        MicrocodeOptimizer x = Check.loaded(THREE + "instr x:a,b!c,a;instr y:c!b;", 0);
        x.setMode(2);
        x.setMark(1, 0, false);
        x.setRegister(7, 77);
        x.write();
        x.start(0, 1);
        return x;
    }

    /** "The input buffer must contain just its characters" */
    private static void findEveryByte() {
        for (int c = 0; c < 256; c++) {
            MicrocodeOptimizer x = Check.loaded(OP_A + "instr b:a;", 0);
            CHECK.due("byte " + c, Check.find(x, "" + (char) c), c == 'a' ? 0 : c == 'b' ? 100 : -1);
            CHECK.due("byte " + c + " before a", Check.find(x, (char) c + "a"), -1);
            CHECK.due("byte " + c + " behind a", Check.find(x, "a" + (char) c), -1);
        }
    }

    // ---- promises 7 and 8

    private static void writeNothing() {
        MicrocodeOptimizer x = Check.loaded(OP_A, 0);
        CHECK.due("write", x.write(), 17);
        Check.load(x, "");
        CHECK.due("write of nothing", x.write(), 0);
        CHECK.due("nothing is left of the former output", Twins.output(x), " end");
    }

    /** The longest text gets longer by a space between unit and target for each operation. */
    private static void writeMost() {
        String text = longestText();
        String due = text.replace("0r0", "0 r0");
        CHECK.due("the text", text.length(), 1200);
        CHECK.due("what is due", due.length(), 1212);
        for (int from = 0; from < 1212; from += 404) {
            MicrocodeOptimizer x = Check.loaded(text, 0);
            CHECK.due("write", x.write(), 1212);
            StringBuilder got = new StringBuilder();
            for (int i = from; i < from + 404; i++) {
                got.append((char) x.outputByte(i));
            }
            CHECK.due("bytes from " + from, got.toString(), due.substring(from, from + 404));
            CHECK.dueThrow("outputByte(1212)", java.util.NoSuchElementException.class, () -> x.outputByte(1212));
        }
    }

    private static String longestText() {
        StringBuilder text = new StringBuilder();
        for (int m = 0; m < 12; m++) {
            text.append("op abcdefg").append(Sources.letter(m)).append(" unit 0r0=9999*1000;");
        }
        int[] lengths = {24, 24, 24, 16};
        for (int i = 0; i < 4; i++) {
            text.append("instr i").append(i);
            for (int k = 0; k < lengths[i]; k++) {
                text.append(k == 0 ? ':' : k % 10 == 0 ? '!' : ',').append("abcdefg").append(Sources.letter((k + i) % 12));
            }
            text.append(';');
        }
        return text.toString();
    }

    private static void outputUntilTheNextWrite() {
        MicrocodeOptimizer x = Check.loaded(OP_A + "instr x:a,a;", 0);
        x.write();
        String before = Twins.output(x);
        CHECK.due("the output", before, OP_A + "instr x:a,a; end");
        x.setMark(0, 0, true);
        CHECK.due("after setMark", Twins.output(x), before);
        Check.load(x, OP_A);
        CHECK.due("after load", Twins.output(x), before);
        x.write();
        CHECK.due("after write", Twins.output(x), OP_A + " end");
    }

    // ---- promises 12 to 15

    private static void sequenceEnds() {
        MicrocodeOptimizer x = Check.loaded(Sources.fullest(), 1);
        for (int i = 0; i < 8; i++) {
            CHECK.due("length", x.length(i), 24);
            for (int k : new int[] {0, 9, 10, 19, 20, 22, 23}) {
                CHECK.due("operationAt(" + i + ", " + k + ")", x.operationAt(i, k), Sources.fullestAt(i, k));
                CHECK.due("hasMark(" + i + ", " + k + ")", x.hasMark(i, k), k == 9 || k == 19);
            }
        }
        MicrocodeOptimizer y = Check.loaded(Sources.fullest(), 1);
        Check.load(y, OP_A + "op b unit 0 r0=1;instr x:b;instr y:a,b;");
        CHECK.due("length 1", y.length(0), 1);
        CHECK.due("its operation", y.operationAt(0, 0), 1);
        CHECK.due("no mark is left", y.hasMark(0, 0), false);
        CHECK.due("length 2", y.length(1), 2);
        CHECK.due("its last operation", y.operationAt(1, 1), 1);
    }

    /** "0 if neither, or if first is not less than second"; "3 if .. they are in different segments" */
    private static void dependenceEdges() {
        MicrocodeOptimizer x = Check.loaded(Sources.fullest(), 0);
        int[][] due = {{0, 1, 2}, {0, 9, 2}, {0, 10, 3}, {9, 10, 3}, {10, 19, 2}, {19, 20, 3}, {20, 23, 2}, {22, 23, 2},
            {0, 23, 3}, {0, 0, 0}, {9, 9, 0}, {23, 23, 0}, {1, 0, 0}, {10, 9, 0}, {23, 0, 0}};
        for (int[] d : due) {
            CHECK.due("dependence(7, " + d[0] + ", " + d[1] + ")", x.dependence(7, d[0], d[1]), d[2]);
            CHECK.due("dependence(0, " + d[0] + ", " + d[1] + ")", x.dependence(0, d[0], d[1]), d[2]);
        }
        MicrocodeOptimizer y = Check.loaded(THREE + "instr x:a,b!b;", 0);
        CHECK.due("neither", y.dependence(0, 0, 1), 0);
        CHECK.due("neither, but another segment", y.dependence(0, 0, 2), 3);
        y.setMark(0, 1, false);
        CHECK.due("neither in one segment", y.dependence(0, 0, 2), 0);
        CHECK.due("the same target in one segment", y.dependence(0, 1, 2), 2);
        y.undo();
        CHECK.due("another segment again", y.dependence(0, 1, 2), 3);
    }

    private static void dependenceInTheLast() {
        MicrocodeOptimizer x = Check.loaded("op a unit 0 r0=r1;op b unit 1 r1=r2;op c unit 2 r3=r0;"
                + Sources.singles(7) + "instr i7:a,b,c!c;", 0);
        CHECK.due("weak", x.dependence(7, 0, 1), 1);
        CHECK.due("strict", x.dependence(7, 0, 2), 2);
        CHECK.due("neither", x.dependence(7, 1, 2), 0);
        CHECK.due("another segment", x.dependence(7, 2, 3), 3);
    }

    // ---- promises 16 to 19 and "Changes"

    private static void modesKeptAndUndone() {
        MicrocodeOptimizer x = Check.loaded("op a unit 0 r0=1;op b unit 0 r1=1;op c unit 1 r2=r1;op d unit 2 r3=r2;"
                + "instr x:a,b,c,d;", 0);
        int[] sizes = {4, 4, 3};
        for (int from = 0; from <= 2; from++) {
            for (int to = 0; to <= 2; to++) {
                x.setMode(from);
                CHECK.due("setMode from " + from + " to " + to, x.setMode(to), sizes[to]);
                CHECK.due("mode", x.mode(), to);
                CHECK.due("storeSize", x.storeSize(), sizes[to]);
                x.undo();
                CHECK.due("mode " + from + " again", x.mode(), from);
                CHECK.due("its storeSize", x.storeSize(), sizes[from]);
            }
        }
    }

    private static void marksAtBothEnds() {
        MicrocodeOptimizer x = Check.loaded(Sources.fullest(), 0);
        for (int i : new int[] {0, 7}) {
            for (int k : new int[] {0, 22}) {
                CHECK.due("setMark(" + i + ", " + k + ", true)", x.setMark(i, k, true), 192);
                CHECK.due("hasMark", x.hasMark(i, k), true);
                CHECK.due("safe", x.store(24 * i + k, 1), 1);
                CHECK.due("set again", x.setMark(i, k, true), 192);
                CHECK.due("setMark(" + i + ", " + k + ", false)", x.setMark(i, k, false), 192);
                CHECK.due("hasMark then", x.hasMark(i, k), false);
                CHECK.due("not safe", x.store(24 * i + k, 1), 0);
            }
        }
        CHECK.due("the marks of the others stay", x.hasMark(0, 9) && x.hasMark(6, 19) && !x.hasMark(1, 0), true);
        MicrocodeOptimizer y = Check.loaded(THREE + "instr x:a,b;", 1);
        CHECK.due("two operations", y.setMark(0, 0, true), 2);
        CHECK.due("and back", y.setMark(0, 0, false), 1);
        // The marks of the last instruction bound its segments of 4, 6 and 3.
        MicrocodeOptimizer z = Check.loaded(OP_A + Sources.singles(7) + "instr i7:a,a,a,a!a,a,a,a,a,a!a,a,a;", 0);
        CHECK.due("6 and 3 of the last instruction", z.setMark(7, 9, false), 13);
        CHECK.dueThrow("4 and 9 of it", IllegalStateException.class, () -> z.setMark(7, 3, false));
    }

    /** "the latest 8 can be undone" */
    private static void undoOfSevenEightNine() {
        for (int changes = 0; changes <= 17; changes++) {
            MicrocodeOptimizer x = Check.loaded(THREE + "instr x:a,b,c;", 0);
            StringBuilder states = new StringBuilder();
            for (int n = 0; n < changes; n++) {
                states.insert(0, x.mode() + (x.hasMark(0, 0) ? "!" : ",") + (x.hasMark(0, 1) ? "! " : ", "));
                if (n % 3 == 2) {
                    x.setMode((x.mode() + 1) % 3);
                } else {
                    x.setMark(0, n % 2, !x.hasMark(0, n % 2));
                }
            }
            int possible = Math.min(changes, 8);
            StringBuilder undone = new StringBuilder();
            for (int left = possible - 1; left >= 0; left--) {
                CHECK.due("undo of " + changes, x.undo(), left);
                undone.append(x.mode() + (x.hasMark(0, 0) ? "!" : ",") + (x.hasMark(0, 1) ? "! " : ", "));
            }
            CHECK.due("what was undone of " + changes, undone.toString(), states.substring(0, 4 * possible));
            String before = Twins.visible(x);
            CHECK.due("one undo too many of " + changes, x.undo(), -1);
            CHECK.due("it changes nothing", Twins.visible(x), before);
        }
    }

    /** Changes behind an undo take the place of what was undone, and the count reaches eight anew. */
    private static void undoAfterUndo() {
        MicrocodeOptimizer x = Check.loaded(THREE + "instr x:a,b,c;", 0);
        for (int n = 0; n < 9; n++) {
            x.setMode(n % 3);
        }
        CHECK.due("undo", x.undo(), 7);
        CHECK.due("undo", x.undo(), 6);
        CHECK.due("mode", x.mode(), 0);
        x.setMark(0, 0, true);
        x.setMark(0, 1, true);
        x.setMode(2);
        for (int left = 7; left >= 0; left--) {
            CHECK.due("undo", x.undo(), left);
        }
        CHECK.due("mode then", x.mode(), 1);
        CHECK.due("no mark then", x.hasMark(0, 0) || x.hasMark(0, 1), false);
        CHECK.due("nothing more", x.undo(), -1);
        x.setMode(0);
        CHECK.due("one more can be undone", x.undo(), 0);
        CHECK.due("mode in the end", x.mode(), 1);
    }

    private static void undoOfMarksAcrossInstructions() {
        MicrocodeOptimizer x = Check.loaded(Sources.fullest(), 0);
        for (int i = 0; i < 8; i++) {
            x.setMark(i, i * 3, true);
        }
        for (int i = 7; i >= 0; i--) {
            CHECK.due("the mark of " + i, x.hasMark(i, i * 3), true);
            CHECK.due("undo", x.undo(), i);
            CHECK.due("the mark of " + i + " then", x.hasMark(i, i * 3), i * 3 == 9);
        }
    }

    /** Undoing a mark joins two segments to one of ten again. */
    private static void undoBackToLongSegments() {
        MicrocodeOptimizer x = Check.loaded(OP_A + Sources.repeated("x", 20, 10), 0);
        x.setMark(0, 4, true);
        x.setMark(0, 14, true);
        CHECK.due("5 and 5", x.setMark(0, 9, false), 20);
        CHECK.due("10 in the middle", x.dependence(0, 5, 14), 2);
        CHECK.due("undo", x.undo(), 2);
        CHECK.due("undo", x.undo(), 1);
        CHECK.due("undo", x.undo(), 0);
        CHECK.due("10 at the beginning", x.dependence(0, 0, 9), 2);
        CHECK.due("10 at the end", x.dependence(0, 10, 19), 2);
        CHECK.due("latency", x.latency(0), 10);
        CHECK.dueThrow("20 are too many", IllegalStateException.class, () -> x.setMark(0, 9, false));
    }

    /** "Registers are not part of this." */
    private static void registersAreNoChanges() {
        MicrocodeOptimizer x = Check.loaded(THREE + "instr x:a,b,c;", 0);
        x.setRegister(5, 1);
        x.setMode(1);
        x.setRegister(5, 2);
        x.runSource(0);
        CHECK.due("only the mode is undone", x.undo(), 0);
        CHECK.due("a register that was set", x.register(5), 2);
        CHECK.due("a register that was computed", x.register(1), 2);
        CHECK.due("nothing more", x.undo(), -1);
    }

    private static void failedLoadForgetsNothing() {
        MicrocodeOptimizer x = busy();
        CHECK.due("a failed load", Check.load(x, "op"), -17);
        CHECK.due("a change", x.undo(), 1);
        CHECK.due("the mark is there again", x.hasMark(1, 0), true);
        CHECK.due("another failed load", Check.load(x, "op"), -17);
        CHECK.due("the other change", x.undo(), 0);
        CHECK.due("mode", x.mode(), 0);
    }

    /** "They are forgotten by load() if it succeeds; the mode stays." */
    private static void loadForgetsChanges() {
        for (String text : new String[] {"", OP_A, THREE + "instr x:a,b!c,a;instr y:c!b;"}) {
            MicrocodeOptimizer x = busy();
            CHECK.due("a load", Check.load(x, text) >= 0, true);
            CHECK.due("nothing to undo", x.undo(), -1);
            CHECK.due("mode", x.mode(), 2);
            CHECK.due("a new change", x.setMode(1) >= 0, true);
            CHECK.due("it can be undone", x.undo(), 0);
            CHECK.due("mode then", x.mode(), 2);
        }
    }

    /** "idle at first, after every load() that succeeds, after every change and every undo() that undoes something" */
    private static void whatMakesIdle() {
        Twins.Step[] steps = {
            x -> Check.load(x, ""), x -> Check.load(x, THREE + "instr x:a,b!c,a;instr y:c!b;"),
            x -> x.setMode(0), x -> x.setMode(1), x -> x.setMode(2),
            x -> x.setMark(0, 0, true), x -> x.setMark(0, 0, false), x -> x.setMark(1, 0, true),
            x -> x.setMark(1, 0, false), x -> x.undo(), x -> x.resume()
        };
        for (int n = 0; n < steps.length; n++) {
            MicrocodeOptimizer x = busy();
            CHECK.due("interrupted before step " + n, x.address() >= 0, true);
            steps[n].on(x);
            CHECK.due("idle after step " + n, x.address(), -1);
            CHECK.dueThrow("resume after step " + n, IllegalStateException.class, () -> x.resume());
            if (x.instructionCount() > 0) {
                CHECK.due("start after step " + n, x.start(0, 0), 0);
            }
        }
        CHECK.due("idle at first", new MicrocodeOptimizer().address(), -1);
    }

    private static void whatDoesNotMakeIdle() {
        Twins.Step[] steps = {
            x -> Check.load(x, "op"), x -> Check.find(x, "a"), x -> x.append(1, 2, 3, 4, 5), x -> x.truncate(0),
            x -> x.write(), x -> x.setRegister(0, 5), x -> x.agrees(0), x -> x.agrees(1),
            x -> Twins.thrown(() -> x.setMode(3)), x -> Twins.thrown(() -> x.setMode(-1)),
            x -> Twins.thrown(() -> x.setMark(0, 3, true)), x -> Twins.thrown(() -> x.setMark(2, 0, true)),
            x -> Twins.thrown(() -> x.start(0, 0)), x -> Twins.thrown(() -> x.runSource(0)), x -> Twins.visible(x)
        };
        for (int n = 0; n < steps.length; n++) {
            MicrocodeOptimizer x = busy();
            int address = x.address();
            steps[n].on(x);
            CHECK.due("interrupted after step " + n, x.address(), address);
            CHECK.due("resume after step " + n, x.resume(), 1);
        }
    }

    // ---- promises 20 to 31

    private static void wordsAndLatencies() {
        for (int n : new int[] {1, 2, 9, 10, 11, 20, 21, 24}) {
            for (int mode = 0; mode <= 2; mode++) {
                MicrocodeOptimizer x = Check.loaded(OP_A + Sources.repeated("x", n, 10), mode);
                CHECK.due("words of " + n, x.wordCount(0), n);
                CHECK.due("chain of " + n, x.chain(0), n);
                CHECK.due("latency of " + n, x.latency(0), Math.min(n, 10));
                CHECK.due("the last word of " + n, x.word(0, n - 1), 1);
                CHECK.dueThrow("a word more", IndexOutOfBoundsException.class, () -> x.word(0, n));
            }
        }
        // The greatest segment is the first, one in the middle, the last.
        for (String sequence : new String[] {"a,a,a!a,a!a", "a!a,a,a!a", "a,a!a!a,a,a"}) {
            MicrocodeOptimizer x = Check.loaded(Sources.counters(12) + "instr x:" + sequence + ";", 2);
            CHECK.due("latency of " + sequence, x.latency(0), 3);
        }
        // A latency gets less again.
        MicrocodeOptimizer z = Check.loaded(THREE + "instr x:a,b,b;", 0);
        CHECK.due("latency one by one", z.latency(0), 3);
        z.setMode(1);
        CHECK.due("latency by list", z.latency(0), 2);
        z.setMark(0, 1, true);
        CHECK.due("latency with a mark", z.latency(0), 1);
        z.undo();
        CHECK.due("latency without it", z.latency(0), 2);
        Check.load(z, THREE + "instr x:c;");
        CHECK.due("latency of another source", z.latency(0), 1);
        // Twelve operations: the set of the last one is bit 11.
        MicrocodeOptimizer y = Check.loaded(Sources.counters(12) + "instr x:l,a;", 0);
        CHECK.due("bit 11", y.word(0, 0), 2048);
        CHECK.due("bit 0", y.word(0, 1), 1);
        CHECK.due("bit 11 in the store", y.store(0, 0), 2048);
    }

    /** "NONE if it is not used"; "0 if it is not used" */
    private static void fieldsOfUnused() {
        MicrocodeOptimizer x = Check.loaded(Sources.counters(12) + "instr x:l,c;", 0);
        CHECK.due("fields", Check.fields(x),
                "-1.0 -1.0 0.1 -1.0 -1.0 -1.0 -1.0 -1.0 -1.0 -1.0 -1.0 0.2");
        CHECK.due("fieldBits", x.fieldBits(), 2);
        CHECK.due("fieldCount", x.fieldCount(), 1);
        CHECK.due("control(0)", x.control(0), 2);
        CHECK.due("control(1)", x.control(1), 1 + 4);
        Check.load(x, Sources.counters(12));
        CHECK.due("none used", x.fieldOf(2), -1);
        CHECK.due("none used", x.codeOf(11), 0);
    }

    /** Whichever call asks first for the fields of a new store gets them. */
    private static void fieldsAskedFirst() {
        Twins.Step[] changes = {
            x -> Check.load(x, "op z unit 0 r0=1;op y unit 1 r1=1;op x unit 1 r2=1;instr v:z,y;instr w:x;"),
            x -> x.setMode(1), x -> x.setMark(0, 0, false), x -> x.undo()
        };
        for (int n = 0; n < changes.length; n++) {
            for (int first = 0; first < 5; first++) {
                MicrocodeOptimizer x = Check.loaded(THREE + "instr x:a,b;instr y:c;", 1);
                x.setMark(0, 0, true);
                CHECK.due("fields before change " + n, Check.fields(x), "0.1 0.2 0.3");
                if (n == 1) {
                    x.setMark(0, 0, false);
                }
                changes[n].on(x);
                long answer = first == 0 ? x.fieldCount() : first == 1 ? x.fieldBits() : first == 2 ? x.fieldOf(2)
                        : first == 3 ? x.codeOf(2) : x.control(0);
                long[] due = {2, 3, 1, 2, 1 + 2 + 8};
                CHECK.due("call " + first + " after change " + n, answer, due[first]);
            }
        }
    }

    // ---- promises 32 to 38

    private static void registerValues() {
        MicrocodeOptimizer x = new MicrocodeOptimizer();
        for (int r : new int[] {0, 7}) {
            CHECK.due("from 0 to the least", x.setRegister(r, MIN), 0);
            CHECK.due("register", x.register(r), MIN);
            CHECK.due("to the greatest", x.setRegister(r, MAX), MIN);
            CHECK.due("register", x.register(r), MAX);
            CHECK.due("to -1", x.setRegister(r, -1), MAX);
            CHECK.due("to -1 again", x.setRegister(r, -1), -1);
        }
        for (int r = 1; r < 7; r++) {
            CHECK.due("the others stay", x.register(r), 0);
        }
    }

    private static void runSourceAnswers() {
        for (int n : new int[] {1, 10, 11, 24}) {
            MicrocodeOptimizer x = Check.loaded(Sources.counters(1) + Sources.repeated("x", n, 10), 2);
            x.setRegister(0, MAX - n + 1);
            CHECK.due("runSource of " + n, x.runSource(0), n);
            CHECK.due("wrapped around", x.register(0), MIN);
            CHECK.due("idle", x.address(), -1);
        }
    }

    /** "as soon as the word executed last is safe and at least so many words have been executed" */
    private static void startAfterEachNumber() {
        // The words 0, 3, 4, 9 and 10 are safe.
        String text = Sources.counters(1) + "instr x:a!a,a,a!a!a,a,a,a,a!a;";
        int[] executed = {0, 1, 4, 4, 4, 5, 10, 10, 10, 10, 10, 11, 11, 11};
        for (int words = 0; words < executed.length; words++) {
            dueStart(text, words, executed[words]);
        }
        dueStart(text, 24, 11);
        dueStart(text, MAX, 11);
    }

    private static void dueStart(String text, int words, int executed) {
        MicrocodeOptimizer x = Check.loaded(text, 0);
        CHECK.due("start(0, " + words + ")", x.start(0, words), executed);
        CHECK.due("r0 after it", x.register(0), executed);
        CHECK.due("address after it", x.address(), executed == 11 ? -1 : executed);
        if (executed == 11) {
            CHECK.dueThrow("resume after the end", IllegalStateException.class, () -> x.resume());
            CHECK.due("idle, so it can start", x.start(0, 0), 0);
        } else {
            CHECK.due("resume", x.resume(), 11 - executed);
            CHECK.due("r0 in the end", x.register(0), 11);
        }
    }

    /** "If the instruction ends, the processor stays idle" */
    private static void startAtTheEnd() {
        MicrocodeOptimizer x = Check.loaded(OP_A + "instr x:a;instr y:a!a;", 0);
        CHECK.due("none of one word", x.start(0, 0), 0);
        CHECK.due("it is interrupted", x.address(), x.entry(0));
        CHECK.due("its rest", x.resume(), 1);
        CHECK.due("one of one word", x.start(0, 1), 1);
        CHECK.due("it has ended", x.address(), -1);
        CHECK.due("two of one word", x.start(0, 2), 1);
        CHECK.due("it has ended", x.address(), -1);
        CHECK.due("one of two words", x.start(1, 1), 1);
        CHECK.due("the last word is next", x.address(), 0);
        CHECK.due("its rest", x.resume(), 1);
        CHECK.due("two of two words", x.start(1, 2), 2);
        CHECK.due("it has ended", x.address(), -1);
        CHECK.due("runSource can go on", x.runSource(1), 2);
    }

    /** The next word of an interrupted processor may be one of another instruction. */
    private static void startInSharedWords() {
        MicrocodeOptimizer x = Check.loaded(THREE + "instr x:a,a!b;instr y:b;instr z:c!b;", 0);
        CHECK.due("the store", Check.store(x), "1>1 1s>2 2s>-1 4s>2");
        CHECK.due("start of y", x.start(1, 0), 0);
        CHECK.due("the entry is that of a shared word", x.address(), 2);
        CHECK.due("resume", x.resume(), 1);
        CHECK.due("start of z", x.start(2, 1), 1);
        CHECK.due("the next one is shared", x.address(), 2);
        CHECK.due("resume of z", x.resume(), 1);
        CHECK.due("a was not executed", x.register(0), 0);
        CHECK.due("c was", x.register(2), 3);
    }

    /** "Executes the rest of an interrupted instruction; the processor is idle then." */
    private static void resumePassesSafeWords() {
        MicrocodeOptimizer x = Check.loaded(Sources.counters(1) + Sources.repeated("x", 24, 1), 0);
        for (int words = 0; words < 24; words++) {
            CHECK.due("start after " + words, x.start(0, words), words);
            CHECK.due("address", x.address(), words);
            CHECK.due("resume after " + words, x.resume(), 24 - words);
            CHECK.due("idle", x.address(), -1);
        }
        CHECK.due("r0", x.register(0), 24 * 24);
    }

    /** "each time beginning with the present registers, which stay as they are" */
    private static void agreesAtTheEdges() {
        for (int mode = 0; mode <= 2; mode++) {
            MicrocodeOptimizer x = Check.loaded("op a unit 0 r0=r1*r7;op b unit 1 r1=r0-r7;op c unit 2 r7=r0+r1;"
                    + "op d unit 3 r7=r7^9999;instr x:a,b,c,d!c,b,a,d;instr y:d;", mode);
            for (int value : new int[] {MIN, MAX, -1, 0, 46341}) {
                for (int r = 0; r < 8; r++) {
                    x.setRegister(r, value + r);
                }
                CHECK.due("agrees on x", x.agrees(0), true);
                CHECK.due("agrees on y", x.agrees(1), true);
                for (int r = 0; r < 8; r++) {
                    CHECK.due("register " + r, x.register(r), value + r);
                }
            }
            x.start(0, 1);
            int address = x.address();
            CHECK.due("agrees while interrupted", x.agrees(0), true);
            CHECK.due("still interrupted", x.address(), address);
            MicrocodeOptimizer y = Check.loaded(Sources.fullest(), mode);
            for (int i = 0; i < 8; i++) {
                CHECK.due("agrees on 24 words", y.agrees(i), true);
            }
            CHECK.due("r0 stays", y.register(0), 0);
        }
    }
}
