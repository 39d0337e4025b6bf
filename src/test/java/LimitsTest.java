/** The limits that the document's description names: Processor, Instructions, Packing, Store and Fields. */
public final class LimitsTest {
    private static final Check CHECK = new Check();
    private static final int MAX = Integer.MAX_VALUE;
    private static final int MIN = Integer.MIN_VALUE;
    private static final String OP_A = Sources.OP_A;

    public static void main(String[] args) {
        sumsWrap();
        differencesWrap();
        productsWrap();
        bitsOfInts();
        constantsWrap();
        atMostTwelveOperations();
        numberedInOrder();
        unitsZeroToFive();
        registersZeroToSeven();
        constantsZeroTo9999();
        kindsZeroToSix();
        atMostEightInstructions();
        oneTo24Operations();
        sameOperationOften();
        marksBetweenOperations();
        segmentsOfTen();
        segmentsBySetMark();
        modeZeroIsTheOrder();
        positionNineIsGreatest();
        sixUnitsFillAWord();
        sameUnitNever();
        weakAndStrict();
        listGoesThroughOnce();
        lastWordsAreSafe();
        nothingShared();
        allShared();
        sharedButForOne();
        fullStore();
        emptyStore();
        bitsOfAField();
        mostFields();
        safeBitAboveAll();
        CHECK.end();
    }

    // ---- Processor: "There are the registers 0 to 7, which hold ints (all operations wrap around)."

    /** a sign b, from the source and from the store. */
    private static void due(int a, String sign, int b, int result) {
        MicrocodeOptimizer x = Check.loaded("op o unit 0 r7=r0" + sign + "r1;instr x:o;", 0);
        x.setRegister(0, a);
        x.setRegister(1, b);
        String what = a + " " + sign + " " + b;
        CHECK.due("agrees on " + what, x.agrees(0), true);
        x.runSource(0);
        CHECK.due(what, x.register(7), result);
        x.setRegister(7, ~result);
        x.start(0, 1);
        CHECK.due(what + " from the store", x.register(7), result);
    }

    private static void sumsWrap() {
        due(MAX - 1, "+", 1, MAX);
        due(MAX, "+", 0, MAX);
        due(MAX, "+", 1, MIN);
        due(MAX, "+", MAX, -2);
        due(MIN + 1, "+", -1, MIN);
        due(MIN, "+", -1, MAX);
        due(MIN, "+", MIN, 0);
        due(MIN, "+", MAX, -1);
    }

    private static void differencesWrap() {
        due(MIN + 1, "-", 1, MIN);
        due(MIN, "-", 1, MAX);
        due(MAX - 1, "-", -1, MAX);
        due(MAX, "-", -1, MIN);
        due(0, "-", MAX, MIN + 1);
        due(-1, "-", MAX, MIN);
        due(-2, "-", MAX, MAX);
        due(-1, "-", MIN, MAX);
        due(0, "-", MIN, MIN);
    }

    private static void productsWrap() {
        due(46340, "*", 46340, 2147395600);
        due(46341, "*", 46341, -2147479015);
        due(65536, "*", 32767, 2147418112);
        due(65536, "*", 32768, MIN);
        due(-65536, "*", 32768, MIN);
        due(65536, "*", 65536, 0);
        due(MAX, "*", 2, -2);
        due(MAX, "*", MAX, 1);
        due(MIN, "*", 1, MIN);
        due(MIN, "*", -1, MIN);
        due(MIN, "*", MIN, 0);
    }

    private static void bitsOfInts() {
        due(MIN, "&", -1, MIN);
        due(MIN, "&", MAX, 0);
        due(MIN, "|", MAX, -1);
        due(MIN, "|", 0, MIN);
        due(MIN, "^", -1, MAX);
        due(MIN, "^", MIN, 0);
    }

    private static void constantsWrap() {
        String[] signs = {"+", "-", "*"};
        int[] before = {MAX - 9999, MIN + 9999, 214769};
        int[] last = {MAX, MIN, 2147475231};
        int[] beyond = {MIN, MAX, 2147475231 + 9999};
        int[] step = {1, -1, 1};
        for (int k = 0; k < 3; k++) {
            MicrocodeOptimizer x = Check.loaded("op o unit 0 r7=r0" + signs[k] + "9999;instr x:o;", 0);
            x.setRegister(0, before[k]);
            x.runSource(0);
            CHECK.due("the last before it wraps, " + signs[k], x.register(7), last[k]);
            x.setRegister(0, before[k] + step[k]);
            x.runSource(0);
            CHECK.due("the first that wraps, " + signs[k], x.register(7), beyond[k]);
        }
    }

    // ---- "There are at most 12 micro-operations, .. numbered from 0 in the order of their declaration."

    private static void atMostTwelveOperations() {
        for (int n : new int[] {0, 1, 11, 12}) {
            MicrocodeOptimizer x = new MicrocodeOptimizer();
            CHECK.due("load of operations: " + n, Check.load(x, Sources.counters(n)), 0);
            CHECK.due("operations: " + n, x.operationCount(), n);
        }
        String twelve = Sources.counters(12);
        CHECK.dueError(Sources.counters(13), twelve.length(), 5);
        CHECK.dueError(twelve + "op", twelve.length(), 5);
        CHECK.dueError(twelve + "\n op a", twelve.length() + 2, 5);
        CHECK.dueError(twelve + "opa", twelve.length(), 1);
    }

    private static void numberedInOrder() {
        MicrocodeOptimizer x = Check.loaded("op l unit 5 r7=r7;" + Sources.counters(11) + "instr z:a;instr y:l;", 0);
        CHECK.due("the first declared", Check.find(x, "l"), 0);
        CHECK.due("the second", Check.find(x, "a"), 1);
        CHECK.due("the twelfth", Check.find(x, "k"), 11);
        CHECK.due("the first instruction", Check.find(x, "z"), 100);
        CHECK.due("the second instruction", Check.find(x, "y"), 101);
        CHECK.due("the unit of 0", x.operation(0, 0), 5);
        CHECK.due("the unit of 1", x.operation(1, 0), 0);
    }

    // ---- "An operation belongs to a unit (0 to 5) and writes one register, the target."

    private static void unitsZeroToFive() {
        for (int unit = 0; unit <= 5; unit++) {
            MicrocodeOptimizer x = Check.loaded("op a unit " + unit + " r0=1;", 0);
            CHECK.due("unit", x.operation(0, 0), unit);
        }
        CHECK.dueError("op a unit -1 r0=1;", 10, 1);
        for (int unit : new int[] {6, 7, 8, 9, 10, 55, 9999}) {
            CHECK.dueError("op a unit " + unit + " r0=1;", 10, 2);
        }
        CHECK.dueLoad("op a unit 0005 r0=1;", 0);
        CHECK.dueError("op a unit 0006 r0=1;", 10, 2);
        CHECK.dueError("op a unit 00005 r0=1;", 10, 1);
    }

    private static void registersZeroToSeven() {
        for (int r = 0; r <= 7; r++) {
            MicrocodeOptimizer x = Check.loaded("op a unit 0 r" + r + "=r" + r + ";op b unit 0 r0=1-r" + r + ";", 0);
            CHECK.due("target", x.operation(0, 1), r);
            CHECK.due("reads as the first operand", x.operation(0, 3), 1 << r);
            CHECK.due("reads as the second operand", x.operation(1, 3), 1 << r);
        }
        for (String bad : new String[] {"r8", "r9", "r10", "r00", "r", "r-1", "r 0"}) {
            CHECK.dueError("op a unit 0 " + bad + "=1;", 12, 1);
            CHECK.dueError("op a unit 0 r0=" + bad + ";", 15, 1);
            CHECK.dueError("op a unit 0 r0=1+" + bad + ";", 17, 1);
        }
    }

    // ---- "An operand is a register, which is read, or a constant from 0 to 9999."

    private static void constantsZeroTo9999() {
        for (int n : new int[] {0, 1, 9998, 9999}) {
            MicrocodeOptimizer x = Check.loaded("op a unit 0 r1=" + n + ";op b unit 1 r2=0|" + n + ";instr x:a,b;", 1);
            x.setRegister(1, -1);
            x.setRegister(2, -1);
            x.start(0, 1);
            CHECK.due("a first constant", x.register(1), n);
            CHECK.due("a second constant", x.register(2), n);
            CHECK.due("a constant reads nothing", x.operation(1, 3), 0);
        }
        for (String bad : new String[] {"10000", "99999", "00000", "-1", "+1"}) {
            CHECK.dueError("op a unit 0 r0=" + bad + ";", 15, 1);
            CHECK.dueError("op a unit 0 r0=1+" + bad + ";", 17, 1);
        }
    }

    private static void kindsZeroToSix() {
        String[] values = {"r1", "r1+r2", "r1-r2", "r1*r2", "r1&r2", "r1|r2", "r1^r2"};
        int[] results = {12, 22, 2, 120, 8, 14, 6};
        for (int kind = 0; kind <= 6; kind++) {
            MicrocodeOptimizer x = Check.loaded("op a unit 0 r0=" + values[kind] + ";instr x:a;", 0);
            x.setRegister(1, 12);
            x.setRegister(2, 10);
            CHECK.due("kind of " + values[kind], x.operation(0, 2), kind);
            x.runSource(0);
            CHECK.due(values[kind], x.register(0), results[kind]);
        }
        CHECK.dueError("op a unit 0 r0=r1/r2;", 17, 1);
        CHECK.dueError("op a unit 0 r0=r1%r2;", 17, 1);
    }

    // ---- Instructions: "There are at most 8 instructions, numbered from 0."

    private static void atMostEightInstructions() {
        for (int n : new int[] {0, 1, 7, 8}) {
            MicrocodeOptimizer x = new MicrocodeOptimizer();
            CHECK.due("load of instructions: " + n, Check.load(x, OP_A + Sources.singles(n)), n);
            CHECK.due("instructions: " + n, x.instructionCount(), n);
        }
        String eight = OP_A + Sources.singles(8);
        CHECK.dueError(OP_A + Sources.singles(9), eight.length(), 5);
        CHECK.dueError(eight + "instr", eight.length(), 5);
        CHECK.dueError(eight + " instr i0:", eight.length() + 1, 5);
        CHECK.dueError(eight + "instrs", eight.length(), 1);
        CHECK.dueError(eight + "op", eight.length(), 1);
    }

    // ---- "The source of an instruction is a sequence of 1 to 24 operations; the same one may occur several times."

    private static void oneTo24Operations() {
        CHECK.dueError(OP_A + "instr x:;", OP_A.length() + 8, 1);
        CHECK.dueError(OP_A + "instr x;", OP_A.length() + 7, 1);
        for (int n : new int[] {1, 2, 23, 24}) {
            for (int segment : new int[] {1, 8, 10}) {
                MicrocodeOptimizer x = Check.loaded(OP_A + Sources.repeated("x", n, segment), 0);
                CHECK.due("length", x.length(0), n);
                CHECK.due("words", x.wordCount(0), n);
            }
        }
        for (int segment : new int[] {1, 6, 8, 9, 10}) {
            // "instr x:" has 8 bytes, and each of the 24 operations before has 2.
            CHECK.dueError(OP_A + Sources.repeated("x", 25, segment), OP_A.length() + 8 + 48, 5);
        }
    }

    private static void sameOperationOften() {
        MicrocodeOptimizer x = Check.loaded(Sources.counters(1) + Sources.repeated("x", 24, 10), 2);
        CHECK.due("24 times", x.operation(0, 4), 24);
        CHECK.due("executed 24 times", x.runSource(0), 24);
        CHECK.due("r0", x.register(0), 24);
        StringBuilder text = new StringBuilder(Sources.counters(2));
        for (int i = 0; i < 8; i++) {
            text.append(Sources.repeated("i" + i, 24, 10));
        }
        MicrocodeOptimizer y = Check.loaded(text.toString(), 0);
        CHECK.due("8 times 24 times", y.operation(0, 4), 192);
        CHECK.due("never", y.operation(1, 4), 0);
    }

    // ---- "A mark may stand between two successive operations"

    private static void marksBetweenOperations() {
        int begin = OP_A.length() + 8;
        CHECK.dueError(OP_A + "instr x:!a;", begin, 1);
        CHECK.dueError(OP_A + "instr x:a!;", begin + 2, 1);
        CHECK.dueError(OP_A + "instr x:a!!a;", begin + 2, 1);
        CHECK.dueError(OP_A + "instr x:a,!a;", begin + 2, 1);
        CHECK.dueError(OP_A + "instr x:a!,a;", begin + 2, 1);
        MicrocodeOptimizer x = Check.loaded(OP_A + Sources.repeated("x", 24, 1), 0);
        for (int k = 0; k < 24; k++) {
            CHECK.due("a mark behind " + k, x.hasMark(0, k), k < 23);
        }
        MicrocodeOptimizer y = Check.loaded(OP_A + "instr x:a!a,a,a,a,a,a,a,a!a;", 0);
        for (int k = 0; k < 10; k++) {
            CHECK.due("marks at both ends, behind " + k, y.hasMark(0, k), k == 0 || k == 8);
        }
    }

    // ---- "The marks divide the source into segments. A segment has at most 10 operations."

    private static void segmentsOfTen() {
        String ten = "a,a,a,a,a,a,a,a,a,a";
        String[] before = {"", "a!", ten + "!", "a!a!"};
        for (String b : before) {
            String text = OP_A + "instr x:" + b;
            CHECK.dueLoad(text + ten + ";", 1);
            CHECK.dueLoad(text + ten + "!a;", 1);
            CHECK.dueError(text + ten + ",a;", text.length() + 20, 5);
            CHECK.dueError(text + ten + ",a!a;", text.length() + 20, 5);
        }
        CHECK.dueLoad(OP_A + "instr x:" + ten + "!" + ten + "!a,a,a,a;", 1);
        CHECK.dueLoad(OP_A + "instr x:" + ten + ";instr y:" + ten + ";", 2);
    }

    private static void segmentsBySetMark() {
        // Segments of 4, 6 and 5: the first two may become one, the last two may not.
        MicrocodeOptimizer x = Check.loaded(OP_A + "instr x:a,a,a,a!a,a,a,a,a,a!a,a,a,a,a;", 0);
        CHECK.dueThrow("6 and 5", IllegalStateException.class, () -> x.setMark(0, 9, false));
        CHECK.due("the mark stays", x.hasMark(0, 9), true);
        CHECK.due("4 and 6", x.setMark(0, 3, false), 15);
        CHECK.dueThrow("10 and 5", IllegalStateException.class, () -> x.setMark(0, 9, false));
        CHECK.due("a mark behind the first of the ten", x.setMark(0, 0, true), 15);
        CHECK.due("a mark behind the fifth", x.setMark(0, 4, true), 15);
        CHECK.due("5 and 5", x.setMark(0, 9, false), 15);
        CHECK.due("a segment of ten at the end", x.dependence(0, 5, 14), 2);
        CHECK.dueThrow("4 and 10", IllegalStateException.class, () -> x.setMark(0, 4, false));
    }

    // ---- Packing

    /** "0: each word has one operation, in the order of the source." */
    private static void modeZeroIsTheOrder() {
        MicrocodeOptimizer x = Check.loaded("op a unit 0 r0=1;op b unit 1 r1=1;op c unit 2 r2=1;instr x:c,a,b!a;", 0);
        CHECK.due("one by one", Check.words(x, 0), "4 1 2 1");
    }

    /** "bit k for position k of the segment": a segment has the positions 0 to 9. */
    private static void positionNineIsGreatest() {
        String ops = Sources.counters(1) + "op b unit 1 r1=1;op c unit 1 r2=1;";
        String chain = "a,a,a,a,a,a,a,a,";
        MicrocodeOptimizer x = Check.loaded(ops + "instr x:" + chain + "b,c;instr y:" + chain + "c,b;", 2);
        CHECK.due("position 9 first, then 8", Check.words(x, 0), "5 3 1 1 1 1 1 1");
        CHECK.due("position 9 is b here", Check.words(x, 1), "3 5 1 1 1 1 1 1");
        x.setMode(1);
        CHECK.due("the list takes position 8 first", Check.words(x, 0), "3 5 1 1 1 1 1 1");
        MicrocodeOptimizer y = Check.loaded(ops + "instr x:" + chain + "a,a;", 2);
        CHECK.due("ten words for ten positions", y.wordCount(0), 10);
        MicrocodeOptimizer z = Check.loaded(ops + "instr x:b;", 2);
        CHECK.due("one word for one position", Check.words(z, 0), "2");
    }

    private static void sixUnitsFillAWord() {
        StringBuilder ops = new StringBuilder();
        for (int m = 0; m < 8; m++) {
            ops.append("op ").append(Sources.letter(m)).append(" unit ").append(m % 6).append(" r").append(m).append("=1;");
        }
        MicrocodeOptimizer x = Check.loaded(ops + "instr x:a,b,c,d,e,f;instr y:a,b,c,d,e,f,g;instr z:a,b,c,d,e,f,g,h;", 1);
        CHECK.due("six", Check.words(x, 0), "63");
        CHECK.due("seven", Check.words(x, 1), "63 64");
        CHECK.due("eight", Check.words(x, 2), "63 192");
        CHECK.due("a chain of one", x.chain(2), 1);
        x.setMode(2);
        CHECK.due("six with the fewest", Check.words(x, 0), "63");
        CHECK.due("seven with the fewest", Check.words(x, 1), "126 1");
        CHECK.due("eight with the fewest", Check.words(x, 2), "252 3");
    }

    /** "Two operations of the same unit cannot be in the same word." */
    private static void sameUnitNever() {
        for (int unit = 0; unit <= 5; unit++) {
            String a = "op a unit " + unit + " r0=1;";
            MicrocodeOptimizer x = Check.loaded(a + "op b unit " + unit + " r1=1;instr x:a,b;", 1);
            CHECK.due("the same unit " + unit, Check.words(x, 0), "1 2");
            MicrocodeOptimizer y = Check.loaded(a + "op b unit " + (unit + 1) % 6 + " r1=1;instr x:a,b;", 1);
            CHECK.due("another unit than " + unit, Check.words(y, 0), "3");
        }
    }

    /** "Then i must be in an earlier word than j." "Then i must be in an earlier word or in the same word." */
    private static void weakAndStrict() {
        String[] texts = {
            "op a unit 0 r0=1;op b unit 1 r1=r0;", "op a unit 0 r0=1;op b unit 1 r1=2-r0;",
            "op a unit 0 r0=1;op b unit 1 r0=1;", "op a unit 0 r0=r1;op b unit 1 r1=r0;",
            "op a unit 0 r0=r1;op b unit 1 r1=1;", "op a unit 0 r0=2+r1;op b unit 1 r1=1;",
            "op a unit 0 r0=r2;op b unit 1 r1=r2;"
        };
        int[] ties = {2, 2, 2, 2, 1, 1, 0};
        for (int t = 0; t < texts.length; t++) {
            for (int mode = 1; mode <= 2; mode++) {
                MicrocodeOptimizer x = Check.loaded(texts[t] + "instr x:a,b;", mode);
                CHECK.due("tie of " + texts[t], x.dependence(0, 0, 1), ties[t]);
                CHECK.due("words of " + texts[t], Check.words(x, 0), ties[t] == 2 ? "1 2" : "3");
                CHECK.due("chain of " + texts[t], x.chain(0), ties[t] == 2 ? 2 : 1);
            }
        }
        // b depends weakly on a, which waits for z: b must not go first, and goes with a.
        MicrocodeOptimizer y = Check.loaded("op z unit 2 r2=1;op a unit 0 r0=r1+r2;op b unit 1 r1=1;instr x:z,a,b;", 1);
        CHECK.due("a weak one waits", Check.words(y, 0), "1 6");
        y.setMode(2);
        CHECK.due("a weak one waits with the fewest", Check.words(y, 0), "1 6");
    }

    /** "the positions that are not packed yet are gone through in ascending order, once" */
    private static void listGoesThroughOnce() {
        // b has the unit of a and waits; c depends strictly on b, d weakly on b, so both wait too, though e goes.
        MicrocodeOptimizer x = Check.loaded("op a unit 0 r0=1;op b unit 0 r1=r2;op c unit 1 r3=r1;op d unit 2 r2=1;"
                + "op e unit 3 r4=1;instr x:a,b,c,d,e;", 1);
        CHECK.due("by the list", Check.words(x, 0), "17 10 4");
    }

    /** "The last word of every segment is safe." */
    private static void lastWordsAreSafe() {
        MicrocodeOptimizer x = Check.loaded(Sources.counters(1) + Sources.repeated("x", 24, 1), 1);
        CHECK.due("24 segments", x.storeSize(), 24);
        for (int a = 0; a < 24; a++) {
            CHECK.due("the only word of segment " + a, x.store(a, 1), 1);
        }
        MicrocodeOptimizer y = Check.loaded(Sources.counters(1) + Sources.repeated("x", 24, 10), 1);
        for (int a = 0; a < 24; a++) {
            CHECK.due("word " + a + " of segments of ten", y.store(a, 1), a == 9 || a == 19 || a == 23 ? 1 : 0);
        }
    }

    // ---- Store: "let k be the least number .. if there is none, k is the number of words"

    private static void dueStore(String what, String instructions, String store, int lastEntry) {
        MicrocodeOptimizer x = Check.loaded(Sources.counters(4) + instructions, 0);
        CHECK.due(what, Check.store(x), store);
        CHECK.due(what + ", the last entry", x.entry(x.instructionCount() - 1), lastEntry);
    }

    private static void nothingShared() {
        dueStore("other last words", "instr x:a,b;instr y:a,c;", "1>1 2s>-1 1>3 4s>-1", 2);
        dueStore("a last word that is not last there", "instr x:a!b;instr y:a;", "1s>1 2s>-1 1s>-1", 2);
        dueStore("a single word", "instr x:a;", "1s>-1", 0);
    }

    private static void allShared() {
        dueStore("the same words", "instr x:a,b;instr y:a,b;", "1>1 2s>-1", 0);
        dueStore("the last word alone", "instr x:a,b;instr y:b;", "1>1 2s>-1", 1);
        dueStore("over two instructions", "instr x:a,b;instr y:c,b;instr z:c,b;", "1>1 2s>-1 4>1", 2);
        StringBuilder text = new StringBuilder(Sources.counters(1));
        for (int i = 0; i < 8; i++) {
            text.append(Sources.repeated("i" + i, 24 - i, 1));
        }
        MicrocodeOptimizer x = Check.loaded(text.toString(), 0);
        CHECK.due("all ends of one", x.storeSize(), 24);
        for (int i = 0; i < 8; i++) {
            CHECK.due("entry into it", x.entry(i), i);
            CHECK.due("users of word " + i, x.store(i, 3), i + 1);
        }
        CHECK.due("users of the last word", x.store(23, 3), 8);
    }

    private static void sharedButForOne() {
        dueStore("all but the first", "instr x:a,b,c;instr y:d,b,c;", "1>1 2>2 4s>-1 8>1", 3);
        dueStore("the last alone", "instr x:a,b,c;instr y:a,d,c;", "1>1 2>2 4s>-1 1>4 8>2", 3);
        dueStore("longer than the other", "instr x:b,c;instr y:a,b,c;", "2>1 4s>-1 1>0", 2);
        dueStore("equal but for safe", "instr x:a,b,c;instr y:a!b,c;", "1>1 2>2 4s>-1 1s>1", 3);
    }

    private static void fullStore() {
        for (int mode = 0; mode <= 2; mode++) {
            MicrocodeOptimizer x = Check.loaded(Sources.fullest(), mode);
            CHECK.due("192 words", x.storeSize(), 192);
            for (int i = 0; i < 8; i++) {
                CHECK.due("entry " + i, x.entry(i), 24 * i);
                CHECK.due("last set " + i, x.store(24 * i + 23, 0), 1 << Sources.fullestAt(i, 23));
                CHECK.due("last next " + i, x.store(24 * i + 23, 2), -1);
                CHECK.due("last but one " + i, x.store(24 * i + 22, 2), 24 * i + 23);
                CHECK.due("execution " + i, x.start(i, 24), 24);
            }
            CHECK.due("r0", x.register(0), 192);
            CHECK.due("the last control", x.control(191), 16 + x.codeOf(Sources.fullestAt(7, 23)));
            CHECK.dueThrow("store(192, 0)", IndexOutOfBoundsException.class, () -> x.store(192, 0));
            CHECK.dueThrow("control(192)", IndexOutOfBoundsException.class, () -> x.control(192));
        }
    }

    private static void emptyStore() {
        for (String text : new String[] {"", OP_A, Sources.counters(12)}) {
            MicrocodeOptimizer x = Check.loaded(text, 0);
            for (int mode = 0; mode <= 2; mode++) {
                CHECK.due("setMode without instructions", x.setMode(mode), 0);
                CHECK.due("storeSize", x.storeSize(), 0);
                CHECK.due("fieldCount", x.fieldCount(), 0);
                CHECK.due("fieldBits", x.fieldBits(), 0);
            }
        }
    }

    // ---- Fields: "A field with n operations has the least number b of bits with 2^b greater than n."

    private static void bitsOfAField() {
        int[] bits = {0, 1, 2, 2, 3, 3, 3, 3, 4, 4, 4, 4, 4};
        for (int n = 1; n <= 12; n++) {
            StringBuilder sequence = new StringBuilder("a");
            for (int m = 1; m < n; m++) {
                sequence.append('!').append(Sources.letter(m));
            }
            MicrocodeOptimizer x = Check.loaded(Sources.counters(12) + "instr x:" + sequence + ";", 0);
            CHECK.due("bits of a field of " + n, x.fieldBits(), bits[n]);
            CHECK.due("one field of " + n, x.fieldCount(), 1);
            CHECK.due("the last code of " + n, x.codeOf(n - 1), n);
            CHECK.due("the last field of " + n, x.fieldOf(n - 1), 0);
            if (n < 12) {
                CHECK.due("the first that is not used", x.codeOf(n), 0);
                CHECK.due("its field", x.fieldOf(n), -1);
            }
        }
    }

    /** Six of a word are each with all others, so there are six fields; with twelve operations they have two each. */
    private static void mostFields() {
        StringBuilder ops = new StringBuilder();
        for (int m = 0; m < 12; m++) {
            ops.append("op ").append(Sources.letter(m)).append(" unit ").append(m % 6).append(" r").append(m % 6).append("=1;");
        }
        MicrocodeOptimizer x = Check.loaded(ops + "instr x:a,b,c,d,e,f!g,h,i,j,k,l;instr y:a,h,i,d,e,f!g,b,c,j,k,l;"
                + "instr z:g,b,i,d,e,f!a,h,c,d,k,f;instr w:a,b,c,j,k,l!g,h,i,d,e,f;instr v:a,j,e,l!g,d,k,f;", 1);
        CHECK.due("six fields", x.fieldCount(), 6);
        CHECK.due("twelve bits", x.fieldBits(), 12);
        CHECK.due("the fields", Check.fields(x), "0.1 1.1 2.1 3.1 4.1 5.1 0.2 1.2 2.2 3.2 4.2 5.2");
        CHECK.due("the lowest codes", x.control(0), 1 + 4 + 16 + 64 + 256 + 1024 + 4096);
        CHECK.due("the highest codes", x.control(1), 2 * (1 + 4 + 16 + 64 + 256 + 1024) + 4096);
    }

    /** "above all fields one bit that is 1 if the word is safe"; "0 if there is none" */
    private static void safeBitAboveAll() {
        MicrocodeOptimizer x = Check.loaded("op a unit 0 r0=1;op b unit 1 r1=1;op c unit 1 r2=r1;instr x:a,b,c;", 1);
        CHECK.due("the fields", Check.fields(x), "0.1 1.1 1.2");
        CHECK.due("not safe", x.control(0), 1 + 2);
        CHECK.due("safe, nothing in field 0", x.control(1), 2 * 2 + 8);
        MicrocodeOptimizer y = Check.loaded("op a unit 0 r0=1;instr x:a,a;", 0);
        CHECK.due("one bit, not safe", y.control(0), 1);
        CHECK.due("one bit, safe", y.control(1), 1 + 2);
    }
}
