import java.util.NoSuchElementException;

/**
 * Calls that are refused: what they answer or throw, which exception comes first where several apply, and
 * that "a call that throws an exception changes nothing, except that a method that reads the input buffer
 * empties it". Each call is tried on objects that have something to lose.
 */
public final class RefusalsTest {
    private static final Check CHECK = new Check();
    private static final Twins TWINS = new Twins(CHECK);
    private static final int MAX = Integer.MAX_VALUE;
    private static final int MIN = Integer.MIN_VALUE;
    private static final Class<IndexOutOfBoundsException> INDEX = IndexOutOfBoundsException.class;
    private static final Class<IllegalArgumentException> ARGUMENT = IllegalArgumentException.class;
    private static final Class<IllegalStateException> STATE = IllegalStateException.class;

    private static final String TEXT = "op a unit 0 r0=r1+1;op b unit 1 r1=r0*r0;op c unit 1 r2=9;"
            + "instr x:a,b!c,a;instr y:c!b;";
    /** Just twenty bytes, so that all of them matter. */
    private static final String WAITING = "op k unit 3 r5=77+9;";

    public static void main(String[] args) {
        objectsAreAsMeant();
        append();
        truncate();
        failedLoads();
        failedFinds();
        outputByte();
        operation();
        instructions();
        indices();
        dependence();
        setMode();
        setMark();
        tooLongSegments();
        undoOfNothing();
        words();
        store();
        fields();
        registers();
        runSource();
        start();
        resume();
        agrees();
        answersChangeNothing();
        CHECK.end();
    }

    // ---- the objects

    private static void objectsAreAsMeant() {
        CHECK.due("the idle one", idle().address(), -1);
        CHECK.due("the interrupted one", interrupted().address(), 2);
        CHECK.due("the one that was changed often", changedOften().address(), 1);
        CHECK.due("two changes", interrupted().undo(), 1);
        CHECK.due("eight changes", changedOften().undo(), 7);
    }

    private static final Twins.Recipe[] RECIPES = {
        RefusalsTest::fresh, RefusalsTest::idle, RefusalsTest::interrupted, RefusalsTest::changedOften
    };

    private static MicrocodeOptimizer fresh() {
        return new MicrocodeOptimizer();
    }

    /** Two changes, registers, an output and a text in the buffer. */
    private static MicrocodeOptimizer idle() {
        MicrocodeOptimizer x = Check.loaded(TEXT, 0);
        x.write();
        x.setMode(1);
        x.setMark(0, 0, true);
        for (int r = 0; r < 8; r++) {
            x.setRegister(r, 100 * r + 7);
        }
        Check.put(x, WAITING);
        return x;
    }

    private static MicrocodeOptimizer interrupted() {
        MicrocodeOptimizer x = idle();
        x.start(0, 2);
        return x;
    }

    /** Eight changes that can be undone, and one that cannot any more. */
    private static MicrocodeOptimizer changedOften() {
        MicrocodeOptimizer x = interrupted();
        for (int n = 0; n < 7; n++) {
            x.setMark(n % 2, 0, n % 3 == 0);
        }
        x.start(0, 1);
        return x;
    }

    private static void dueRefused(String what, Class<? extends RuntimeException> want, Twins.Step call) {
        for (int n = 0; n < RECIPES.length; n++) {
            TWINS.dueRefused(what + " of object " + n, want, RECIPES[n], call);
        }
    }

    /** For all but the new object, which has no operations and instructions. */
    private static void dueRefusedIfLoaded(String what, Class<? extends RuntimeException> want, Twins.Step call) {
        for (int n = 1; n < RECIPES.length; n++) {
            TWINS.dueRefused(what + " of object " + n, want, RECIPES[n], call);
        }
    }

    private static void dueUnchanged(String what, Twins.Step call) {
        for (int n = 0; n < RECIPES.length; n++) {
            TWINS.dueUnchanged(what + " of object " + n, RECIPES[n], call);
        }
    }

    // ---- promises 2 and 3

    /** "NONE, and the buffer is unchanged, if the length would exceed 1200 bytes" */
    private static void append() {
        for (int length : new int[] {1181, 1182, 1199, 1200}) {
            Twins.Recipe recipe = () -> filled(length);
            CHECK.due("append to " + length, recipe.make().append(1, 2, 3, 4, 5), -1);
            TWINS.dueUnchanged("append to " + length, recipe, x -> x.append(0x3b3b3b3b, 2, 3, 4, -1));
        }
        CHECK.due("append to 1180", filled(1180).append(1, 2, 3, 4, 5), 1200);
        CHECK.due("append to 1179", filled(1179).append(1, 2, 3, 4, 5), 1199);
    }

    /** A buffer of this length that ends with an operation, so that every byte of it counts. */
    private static MicrocodeOptimizer filled(int length) {
        MicrocodeOptimizer x = Check.loaded(TEXT, 0);
        Check.put(x, " ".repeat(length - WAITING.length()) + WAITING);
        return x;
    }

    /** "false, and the buffer is unchanged, if length is negative or greater than the current length" */
    private static void truncate() {
        for (int length : new int[] {0, 1, 20, 21, 1200}) {
            Twins.Recipe recipe = length < 20 ? () -> shortBuffer(length) : () -> filled(length);
            for (int bad : new int[] {-1, -length - 1, MIN, length + 1, length + 20, MAX}) {
                CHECK.due("truncate(" + bad + ") of " + length, recipe.make().truncate(bad), false);
                TWINS.dueUnchanged("truncate(" + bad + ") of " + length, recipe, x -> x.truncate(bad));
            }
            CHECK.due("truncate to the same length " + length, recipe.make().truncate(length), true);
            TWINS.dueUnchanged("truncate to the same length " + length, recipe, x -> x.truncate(length));
        }
    }

    private static MicrocodeOptimizer shortBuffer(int length) {
        MicrocodeOptimizer x = Check.loaded(TEXT, 0);
        Check.put(x, "a".repeat(length));
        return x;
    }

    // ---- promises 5 and 6

    /** "if there is an error, -(8 * offset + kind), and the source stays" */
    private static void failedLoads() {
        String twelve = Sources.counters(12);
        String[] texts = {"?", "op z unit 6 r0=1;", "op z unit 0 r0=1;instr z:z;", "op z unit 0 r0=1;instr y:z,a;",
            twelve + "op m unit 0 r0=1;", twelve + Sources.singles(9), twelve + Sources.repeated("x", 25, 10),
            twelve + Sources.repeated("x", 11, 11), twelve + Sources.singles(8) + ";", "op"};
        int[] answers = {-1, -(80 + 2), -(8 * 23 + 3), -(8 * 27 + 4), -(8 * 240 + 5), -(8 * (240 + 88) + 5),
            -(8 * (240 + 8 + 48) + 5), -(8 * (240 + 8 + 20) + 5), -(8 * (240 + 88) + 1), -(8 * 2 + 1)};
        for (int t = 0; t < texts.length; t++) {
            String text = texts[t];
            for (int n = 0; n < RECIPES.length; n++) {
                MicrocodeOptimizer x = RECIPES[n].make();
                x.truncate(0);
                CHECK.due("load of text " + t + " into object " + n, Check.load(x, text), answers[t]);
                CHECK.due("the buffer is empty then", x.bufferLength(), 0);
                TWINS.dueAlike("load of text " + t + " changes nothing else in object " + n, RECIPES[n], y -> {
                    y.truncate(0);
                    Check.load(y, text);
                }, y -> y.truncate(0));
            }
        }
    }

    /** "NONE if there is none"; "the buffer is empty afterwards" */
    private static void failedFinds() {
        for (String name : new String[] {"", "k", "A", "aa", "a ", " a", "op", "r0", "abcdefghi", "a".repeat(1200)}) {
            for (int n = 0; n < RECIPES.length; n++) {
                MicrocodeOptimizer x = RECIPES[n].make();
                x.truncate(0);
                CHECK.due("find of " + name + " in object " + n, Check.find(x, name), -1);
                CHECK.due("the buffer is empty then", x.bufferLength(), 0);
                TWINS.dueAlike("find of " + name + " changes nothing else in object " + n, RECIPES[n], y -> {
                    y.truncate(0);
                    Check.find(y, name);
                }, y -> y.truncate(0));
            }
        }
    }

    // ---- promise 8

    private static void outputByte() {
        for (int bad : new int[] {-1, MIN, MAX, TEXT.length(), TEXT.length() + 1, 1200, 2232}) {
            dueRefused("outputByte(" + bad + ")", NoSuchElementException.class, x -> x.outputByte(bad));
        }
        CHECK.dueThrow("outputByte(0) without an output", NoSuchElementException.class, () -> fresh().outputByte(0));
        CHECK.due("the last byte", idle().outputByte(TEXT.length() - 1), ';');
    }

    // ---- promises 11 to 15

    private static final int[] BAD_WHATS = {-1, MIN, MAX};

    private static void operation() {
        for (int bad : new int[] {-1, 3, 4, 11, 12, MIN, MAX}) {
            dueRefused("operation(" + bad + ", 0)", INDEX, x -> x.operation(bad, 0));
            dueRefused("operation(" + bad + ", 4)", INDEX, x -> x.operation(bad, 4));
            // Both apply: the index comes first.
            dueRefused("operation(" + bad + ", 5)", INDEX, x -> x.operation(bad, 5));
            dueRefused("operation(" + bad + ", -1)", INDEX, x -> x.operation(bad, -1));
        }
        dueRefusedIfLoaded("operation(0, 5)", ARGUMENT, x -> x.operation(0, 5));
        dueRefusedIfLoaded("operation(2, 5)", ARGUMENT, x -> x.operation(2, 5));
        for (int bad : BAD_WHATS) {
            dueRefusedIfLoaded("operation(2, " + bad + ")", ARGUMENT, x -> x.operation(2, bad));
        }
        CHECK.dueThrow("operation(0, 0) of a new object", INDEX, () -> fresh().operation(0, 0));
    }

    private static final int[] BAD_INSTRUCTIONS = {-1, 2, 7, 8, MIN, MAX, 1 << 29, 1 << 30};

    /** The calls that take an instruction alone. */
    private static void instructions() {
        for (int bad : BAD_INSTRUCTIONS) {
            dueRefused("length(" + bad + ")", INDEX, x -> x.length(bad));
            dueRefused("wordCount(" + bad + ")", INDEX, x -> x.wordCount(bad));
            dueRefused("chain(" + bad + ")", INDEX, x -> x.chain(bad));
            dueRefused("latency(" + bad + ")", INDEX, x -> x.latency(bad));
            dueRefused("entry(" + bad + ")", INDEX, x -> x.entry(bad));
        }
        TWINS.dueRefused("length(0)", INDEX, RefusalsTest::fresh, x -> x.length(0));
        TWINS.dueRefused("wordCount(0)", INDEX, RefusalsTest::fresh, x -> x.wordCount(0));
        TWINS.dueRefused("chain(0)", INDEX, RefusalsTest::fresh, x -> x.chain(0));
        TWINS.dueRefused("latency(0)", INDEX, RefusalsTest::fresh, x -> x.latency(0));
        TWINS.dueRefused("entry(0)", INDEX, RefusalsTest::fresh, x -> x.entry(0));
    }

    /** Instructions and indices that are not there; those of object 0 are none at all, and the lengths are 4 and 2. */
    private static final int[][] BAD_INDICES = {
        {0, -1}, {0, 4}, {0, 23}, {0, 24}, {0, 48}, {0, MIN}, {0, MAX}, {1, 2}, {1, -1}, {1, -24}, {1, 3},
        {-1, 0}, {-1, 24}, {2, 0}, {2, -48}, {8, 0}, {MIN, 0}, {MAX, 0}, {1 << 29, 0}, {MAX, MAX}, {MIN, MIN}
    };

    private static void indices() {
        for (int[] bad : BAD_INDICES) {
            String where = "(" + bad[0] + ", " + bad[1] + ")";
            dueRefused("operationAt" + where, INDEX, x -> x.operationAt(bad[0], bad[1]));
            dueRefused("hasMark" + where, INDEX, x -> x.hasMark(bad[0], bad[1]));
        }
        CHECK.dueThrow("operationAt(0, 0) of a new object", INDEX, () -> fresh().operationAt(0, 0));
        CHECK.dueThrow("hasMark(0, 0) of a new object", INDEX, () -> fresh().hasMark(0, 0));
    }

    private static void dependence() {
        for (int[] bad : BAD_INDICES) {
            String where = bad[0] + ", " + bad[1];
            dueRefused("dependence(" + where + ", 0)", INDEX, x -> x.dependence(bad[0], bad[1], 0));
            dueRefused("dependence(" + where + ", 1)", INDEX, x -> x.dependence(bad[0], bad[1], 1));
            dueRefused("dependence(0 and 1 of it)", INDEX, x -> x.dependence(bad[0], 0, bad[1] == 0 ? MIN : bad[1]));
            dueRefused("dependence(" + where + " twice)", INDEX, x -> x.dependence(bad[0], bad[1], bad[1]));
        }
        CHECK.dueThrow("dependence(0, 0, 0) of a new object", INDEX, () -> fresh().dependence(0, 0, 0));
        // first is not less than second: still no such index.
        CHECK.dueThrow("dependence(0, 3, -1)", INDEX, () -> idle().dependence(0, 3, -1));
        CHECK.dueThrow("dependence(0, 4, 3)", INDEX, () -> idle().dependence(0, 4, 3));
    }

    // ---- promises 16 to 19

    private static void setMode() {
        for (int bad : new int[] {-1, 3, 4, MIN, MAX}) {
            dueRefused("setMode(" + bad + ")", ARGUMENT, x -> x.setMode(bad));
        }
    }

    private static void setMark() {
        for (int[] bad : BAD_INDICES) {
            String where = "(" + bad[0] + ", " + bad[1] + ", ";
            dueRefused("setMark" + where + "true)", INDEX, x -> x.setMark(bad[0], bad[1], true));
            dueRefused("setMark" + where + "false)", INDEX, x -> x.setMark(bad[0], bad[1], false));
        }
        // The last index of each instruction.
        for (boolean isThere : new boolean[] {true, false}) {
            dueRefused("setMark(0, 3, " + isThere + ")", INDEX, x -> x.setMark(0, 3, isThere));
            dueRefused("setMark(1, 1, " + isThere + ")", INDEX, x -> x.setMark(1, 1, isThere));
            CHECK.dueThrow("setMark(0, 0) of a new object", INDEX, () -> fresh().setMark(0, 0, isThere));
            TWINS.dueRefused("setMark of a single operation", INDEX, () -> Check.loaded(Sources.OP_A + "instr x:a;", 0),
                    x -> x.setMark(0, 0, isThere));
            TWINS.dueRefused("setMark behind the 24th", INDEX,
                    () -> Check.loaded(Sources.OP_A + Sources.repeated("x", 24, 10), 0), x -> x.setMark(0, 23, isThere));
        }
        CHECK.due("setMark behind the 23rd",
                Check.loaded(Sources.OP_A + Sources.repeated("x", 24, 10), 0).setMark(0, 22, true), 24);
        // Then x has four words and y two, and neither ends as the other does.
        CHECK.due("the last but one", idle().setMark(0, 2, true), 6);
    }

    /** "if a segment would have more than 10 operations" */
    private static void tooLongSegments() {
        for (int before = 1; before <= 10; before++) {
            for (int behind = 1; behind <= 10; behind++) {
                String sequence = "a" + ",a".repeat(before - 1) + "!a" + ",a".repeat(behind - 1);
                int mark = before - 1;
                String what = before + " and " + behind + " operations";
                Twins.Recipe recipe = () -> startedWith(sequence);
                if (before + behind > 10) {
                    TWINS.dueRefused(what, STATE, recipe, x -> x.setMark(0, mark, false));
                } else {
                    CHECK.due(what, recipe.make().setMark(0, mark, false), before + behind);
                }
                CHECK.due(what + " with the mark", recipe.make().setMark(0, mark, true), before + behind);
            }
        }
        // Both sides of the segment have marks of their own, which bound it.
        CHECK.due("5 and 5 between marks", startedWith("a!a,a,a,a,a!a,a,a,a,a!a").setMark(0, 5, false), 12);
        TWINS.dueRefused("5 and 6 between marks", STATE, () -> startedWith("a!a,a,a,a,a!a,a,a,a,a,a!a"),
                x -> x.setMark(0, 5, false));
        TWINS.dueRefused("6 and 5 between marks", STATE, () -> startedWith("a!a,a,a,a,a,a!a,a,a,a,a!a"),
                x -> x.setMark(0, 6, false));
    }

    private static MicrocodeOptimizer startedWith(String sequence) {
        MicrocodeOptimizer x = Check.loaded(Sources.counters(1) + "instr x:" + sequence + ";", 2);
        x.setMark(0, 0, x.hasMark(0, 0));
        x.setRegister(0, 50);
        x.start(0, 0);
        return x;
    }

    /** "NONE if there is none to undo": the processor does not become idle by it. */
    private static void undoOfNothing() {
        Twins.Recipe recipe = () -> {
            MicrocodeOptimizer x = Check.loaded(TEXT, 2);
            x.start(0, 1);
            return x;
        };
        CHECK.due("undo of nothing", recipe.make().undo(), -1);
        TWINS.dueUnchanged("undo of nothing", recipe, x -> x.undo());
        TWINS.dueUnchanged("undo of nothing in a new object", RefusalsTest::fresh, x -> x.undo());
    }

    // ---- promises 21, 26 and 29 to 31

    private static void words() {
        // The words of x are a, b, (c with a); those of y are c and b.
        CHECK.due("words of x", Check.words(idle(), 0), "1 2 5");
        CHECK.due("words of y", Check.words(idle(), 1), "4 2");
        int[][] bads = {{0, -1}, {0, 3}, {0, 4}, {0, 24}, {0, MIN}, {0, MAX}, {1, 2}, {1, -1}, {1, -24}, {1, 24},
            {-1, 0}, {-1, 24}, {2, 0}, {2, -24}, {8, 0}, {MIN, 0}, {MAX, 0}, {1 << 29, 0}};
        for (int[] bad : bads) {
            TWINS.dueRefused("word(" + bad[0] + ", " + bad[1] + ")", INDEX, RefusalsTest::idle, x -> x.word(bad[0], bad[1]));
            TWINS.dueRefused("word(" + bad[0] + ", " + bad[1] + ")", INDEX, RefusalsTest::interrupted,
                    x -> x.word(bad[0], bad[1]));
            TWINS.dueRefused("word(" + bad[0] + ", " + bad[1] + ")", INDEX, RefusalsTest::fresh, x -> x.word(bad[0], bad[1]));
        }
        CHECK.dueThrow("word(0, 0) of a new object", INDEX, () -> fresh().word(0, 0));
    }

    private static void store() {
        // a>b>(c with a), c>b: no end is shared, so the store has five words.
        int size = idle().storeSize();
        CHECK.due("storeSize", size, 5);
        for (int bad : new int[] {-1, 5, 6, 191, 192, MIN, MAX}) {
            dueRefused("store(" + bad + ", 0)", INDEX, x -> x.store(bad, 0));
            dueRefused("store(" + bad + ", 3)", INDEX, x -> x.store(bad, 3));
            // Both apply: the index comes first.
            dueRefused("store(" + bad + ", 4)", INDEX, x -> x.store(bad, 4));
            dueRefused("store(" + bad + ", -1)", INDEX, x -> x.store(bad, -1));
            dueRefused("control(" + bad + ")", INDEX, x -> x.control(bad));
        }
        CHECK.dueThrow("store(0, 0) of a new object", INDEX, () -> fresh().store(0, 0));
        CHECK.dueThrow("control(0) of a new object", INDEX, () -> fresh().control(0));
        dueRefusedIfLoaded("store(0, 4)", ARGUMENT, x -> x.store(0, 4));
        for (int bad : BAD_WHATS) {
            dueRefusedIfLoaded("store(1, " + bad + ")", ARGUMENT, x -> x.store(1, bad));
        }
        CHECK.due("the last address and property", idle().store(4, 3), 1);
    }

    private static void fields() {
        for (int bad : new int[] {-1, 3, 4, 11, 12, MIN, MAX}) {
            dueRefused("fieldOf(" + bad + ")", INDEX, x -> x.fieldOf(bad));
            dueRefused("codeOf(" + bad + ")", INDEX, x -> x.codeOf(bad));
        }
        CHECK.dueThrow("fieldOf(0) of a new object", INDEX, () -> fresh().fieldOf(0));
        CHECK.dueThrow("codeOf(0) of a new object", INDEX, () -> fresh().codeOf(0));
    }

    // ---- promises 32 to 38

    private static void registers() {
        for (int bad : new int[] {-1, 8, 9, MIN, MAX}) {
            dueRefused("register(" + bad + ")", INDEX, x -> x.register(bad));
            dueRefused("setRegister(" + bad + ", 1)", INDEX, x -> x.setRegister(bad, 1));
        }
    }

    private static void runSource() {
        for (int bad : BAD_INSTRUCTIONS) {
            // For the objects that are not idle both apply: the index comes first.
            dueRefused("runSource(" + bad + ")", INDEX, x -> x.runSource(bad));
        }
        CHECK.dueThrow("runSource(0) of a new object", INDEX, () -> fresh().runSource(0));
        for (int i = 0; i < 2; i++) {
            int instruction = i;
            TWINS.dueRefused("runSource while interrupted", STATE, RefusalsTest::interrupted, x -> x.runSource(instruction));
            TWINS.dueRefused("runSource while interrupted", STATE, RefusalsTest::changedOften, x -> x.runSource(instruction));
        }
    }

    private static void start() {
        for (int bad : BAD_INSTRUCTIONS) {
            dueRefused("start(" + bad + ", 0)", INDEX, x -> x.start(bad, 0));
            dueRefused("start(" + bad + ", 1)", INDEX, x -> x.start(bad, 1));
            dueRefused("start(" + bad + ", -1)", INDEX, x -> x.start(bad, -1));
        }
        CHECK.dueThrow("start(0, 0) of a new object", INDEX, () -> fresh().start(0, 0));
        for (int bad : new int[] {-1, -2, MIN}) {
            // Of the objects that are not idle too: the argument comes before the state.
            dueRefusedIfLoaded("start(1, " + bad + ")", ARGUMENT, x -> x.start(1, bad));
        }
        for (int words : new int[] {0, 1, 24, MAX}) {
            TWINS.dueRefused("start while interrupted", STATE, RefusalsTest::interrupted, x -> x.start(1, words));
            TWINS.dueRefused("start while interrupted", STATE, RefusalsTest::changedOften, x -> x.start(0, words));
        }
    }

    private static void resume() {
        TWINS.dueRefused("resume of a new object", STATE, RefusalsTest::fresh, x -> x.resume());
        TWINS.dueRefused("resume when idle", STATE, RefusalsTest::idle, x -> x.resume());
        TWINS.dueRefused("resume twice", STATE, () -> {
            MicrocodeOptimizer x = interrupted();
            x.resume();
            return x;
        }, x -> x.resume());
        TWINS.dueRefused("resume of an instruction that has ended", STATE, () -> {
            MicrocodeOptimizer x = idle();
            x.start(0, 3);
            return x;
        }, x -> x.resume());
    }

    private static void agrees() {
        for (int bad : BAD_INSTRUCTIONS) {
            dueRefused("agrees(" + bad + ")", INDEX, x -> x.agrees(bad));
        }
        CHECK.dueThrow("agrees(0) of a new object", INDEX, () -> fresh().agrees(0));
    }

    /** Calls that only answer something leave everything as it is, an interrupted processor too. */
    private static void answersChangeNothing() {
        dueUnchanged("counts", x -> {
            x.bufferLength();
            x.operationCount();
            x.instructionCount();
            x.mode();
            x.storeSize();
            x.fieldCount();
            x.fieldBits();
            x.address();
        });
        dueUnchanged("all answers", x -> Twins.visible(x));
        dueUnchanged("the output", x -> Twins.output(x));
        // write() changes the output, and nothing but the output.
        for (int n = 0; n < RECIPES.length; n++) {
            MicrocodeOptimizer x = RECIPES[n].make();
            String before = Twins.visible(x);
            x.write();
            CHECK.due("write of object " + n + " changes the output alone", Twins.visible(x), before);
        }
    }
}
