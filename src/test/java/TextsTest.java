import java.util.NoSuchElementException;

/** Promises 1 to 8: a new object, the input buffer, load, find, write and the output. */
public final class TextsTest {
    private static final Check CHECK = new Check();
    private static final String OP_A = Sources.OP_A;

    public static void main(String[] args) {
        newObject();
        buffer();
        loadReplaces();
        loadTokens();
        loadErrors();
        loadLimits();
        failedLoadKeeps();
        find();
        write();
        outputByte();
        CHECK.end();
    }

    private static void newObject() {
        MicrocodeOptimizer x = new MicrocodeOptimizer();
        CHECK.due("new: operationCount", x.operationCount(), 0);
        CHECK.due("new: instructionCount", x.instructionCount(), 0);
        CHECK.due("new: mode", x.mode(), 0);
        CHECK.due("new: bufferLength", x.bufferLength(), 0);
        CHECK.due("new: storeSize", x.storeSize(), 0);
        CHECK.due("new: address", x.address(), MicrocodeOptimizer.NONE);
        CHECK.due("new: undo", x.undo(), MicrocodeOptimizer.NONE);
        for (int r = 0; r < 8; r++) {
            CHECK.due("new: register " + r, x.register(r), 0);
        }
        CHECK.dueThrow("new: outputByte(0)", NoSuchElementException.class, () -> x.outputByte(0));
    }

    private static void buffer() {
        MicrocodeOptimizer x = new MicrocodeOptimizer();
        CHECK.due("truncate(-1) of nothing", x.truncate(-1), false);
        CHECK.due("truncate(1) of nothing", x.truncate(1), false);
        CHECK.due("truncate(0) of nothing", x.truncate(0), true);
        for (int n = 1; n <= 60; n++) {
            CHECK.due("append " + n, x.append(n, 0, 0, 0, 0), 20 * n);
        }
        CHECK.due("append beyond 1200", x.append(1, 2, 3, 4, 5), -1);
        CHECK.due("length then", x.bufferLength(), 1200);
        CHECK.due("truncate(1201)", x.truncate(1201), false);
        CHECK.due("truncate(min)", x.truncate(Integer.MIN_VALUE), false);
        CHECK.due("truncate(1181)", x.truncate(1181), true);
        CHECK.due("append to 1201", x.append(1, 2, 3, 4, 5), -1);
        CHECK.due("length stays", x.bufferLength(), 1181);
        CHECK.due("truncate(1180)", x.truncate(1180), true);
        CHECK.due("append to 1200", x.append(1, 2, 3, 4, 5), 1200);
        CHECK.due("truncate(0)", x.truncate(0), true);
        CHECK.due("length 0", x.bufferLength(), 0);
        // The order of the bytes shows in the name that is found, and in the offset of a wrong byte.
        CHECK.due("load for the order", Check.load(x, "op abcd unit 0 r0=1;"), 0);
        CHECK.due("append abcd", x.append(0x61626364, 0, 0, 0, 0), 20);
        CHECK.due("truncate(4)", x.truncate(4), true);
        CHECK.due("find abcd", x.find(), 0);
        x.append(0x20202020, 0x20202020, 0x20202020, 0x20202020, 0x2020207f);
        CHECK.due("the 20th byte", x.load(), -(8 * 19 + 1));
        x.append(0x20202020, 0x20202020, 0x20202020, 0x20202020, 0xff202020);
        CHECK.due("a byte above 127", x.load(), -(8 * 16 + 1));
    }

    private static void loadReplaces() {
        MicrocodeOptimizer x = new MicrocodeOptimizer();
        x.setRegister(5, 55);
        x.setMode(2);
        CHECK.due("load", Check.load(x, OP_A + "op b unit 1 r1=2;instr x:a,b;instr y:b;"), 2);
        CHECK.due("load empties", x.bufferLength(), 0);
        CHECK.due("mode stays", x.mode(), 2);
        CHECK.due("register stays", x.register(5), 55);
        CHECK.due("changes are forgotten", x.undo(), -1);
        CHECK.due("packed in the mode", Check.words(x, 0), "3");
        x.start(0, 0);
        CHECK.due("interrupted", x.address(), 0);
        CHECK.due("load of another", Check.load(x, "op c unit 5 r7=r6;instr z:c;"), 1);
        CHECK.due("idle then", x.address(), -1);
        CHECK.due("operations then", x.operationCount(), 1);
        CHECK.due("a is gone", Check.find(x, "a"), -1);
        CHECK.due("z is there", Check.find(x, "z"), 100);
        CHECK.due("load of nothing", x.load(), 0);
        CHECK.due("no operations", x.operationCount(), 0);
        CHECK.due("no words", x.storeSize(), 0);
        CHECK.due("only blanks", Check.load(x, " \n\n "), 0);
    }

    private static void loadTokens() {
        due("", 0);
        due(" \nop\na\nunit 0 r0 = 1 + r2 ; instr x : a , a ! a ; \n", 1);
        due("op a unit 0r0=1;instr x:a;", 1);
        due("op a unit 0005 r0=0009;", 0);
        due("op r8 unit 0 r0=1;", 0);
        due("op r unit 0 r0=1;", 0);
        due("op r00 unit 0 r0=1;", 0);
        due("op op1 unit 0 r0=1;", 0);
        due("op abcdefgh unit 0 r0=9999;", 0);
        due("op a unit 5 r7=r7^9999;instr opa:a;instr a1:a;", 2);
        due(OP_A + "op b unit 0 r1=r0-r1;op c unit 0 r1=r0*r1;op d unit 0 r1=r0&r1;op e unit 0 r1=r0|r1;", 0);
    }

    private static void due(String text, int answer) {
        CHECK.dueLoad(text, answer);
    }

    private static void dueError(String text, int offset, int kind) {
        CHECK.dueError(text, offset, kind);
    }

    private static void loadErrors() {
        dueError("x", 0, 1);
        dueError(" ?", 1, 1);
        dueError("\top", 0, 1);
        dueError("op", 2, 1);
        dueError("op  ", 4, 1);
        dueError("op op unit 0 r0=1;", 3, 1);
        dueError("op unit unit 0 r0=1;", 3, 1);
        dueError("op instr unit 0 r0=1;", 3, 1);
        dueError("op r7 unit 0 r0=1;", 3, 1);
        dueError("op 1a unit 0 r0=1;", 3, 1);
        dueError("op abcdefghi unit 0 r0=1;", 3, 1);
        dueError("op aB unit 0 r0=1;", 4, 1);
        dueError("op a unitx 0 r0=1;", 5, 1);
        dueError("op a unit0 r0=1;", 5, 1);
        dueError("op a unit 6 r0=1;", 10, 2);
        dueError("op a unit 9999 r0=1;", 10, 2);
        dueError("op a unit 00000 r0=1;", 10, 1);
        dueError("op a unit 6x", 10, 2);
        dueError("op a unit x r0=1;", 10, 1);
        dueError("op a unit 0 r8=1;", 12, 1);
        dueError("op a unit 0 1=1;", 12, 1);
        dueError("op a unit 0 r0:1;", 14, 1);
        dueError("op a unit 0 r0=;", 15, 1);
        dueError("op a unit 0 r0=a;", 15, 1);
        dueError("op a unit 0 r0=10000;", 15, 1);
        dueError("op a unit 0 r0=-1;", 15, 1);
        dueError("op a unit 0 r0=1a;", 16, 1);
        dueError("op a unit 0 r0=1+;", 17, 1);
        dueError("op a unit 0 r0=1+2+3;", 18, 1);
        dueError("op a unit 0 r0=1,", 16, 1);
        dueError("op a unit 0 r0=1", 16, 1);
        dueError(OP_A + OP_A, 20, 3);
        dueError(OP_A + "instr", 22, 1);
        dueError(OP_A + "instr a:a;", 23, 3);
        dueError(OP_A + "instr x:a;instr x:a;", 33, 3);
        dueError(OP_A + "instr r3:a;", 23, 1);
        dueError(OP_A + "instr x;", 24, 1);
        dueError(OP_A + "instr x:;", 25, 1);
        dueError(OP_A + "instr x:r1;", 25, 1);
        dueError(OP_A + "instr x:b;", 25, 4);
        dueError(OP_A + "instr x:x;", 25, 4);
        dueError(OP_A + "instr x:a;instr y:x;", 35, 4);
        dueError(OP_A + "instr x:a a;", 27, 1);
        dueError(OP_A + "instr x:a,;", 27, 1);
        dueError(OP_A + "instr x:a!", 27, 1);
        dueError(OP_A + "instr x:a!!a;", 27, 1);
        dueError(OP_A + "instr x:a;op b unit 0 r0=1;", 27, 1);
        dueError(OP_A + "instr x:a;\0", 27, 1);
        dueError(OP_A + "instr x:a;;", 27, 1);
        dueError(OP_A + "unit", 17, 1);
    }

    private static void loadLimits() {
        StringBuilder twelve = new StringBuilder();
        for (int i = 0; i < 12; i++) {
            twelve.append("op o").append(i).append(" unit 0 r0=1;");
        }
        due(twelve.toString(), 0);
        dueError(twelve + " op o12 unit 0 r0=1;", twelve.length() + 1, 5);
        dueError(twelve + "instr x:o0;op o12 unit 0 r0=1;", twelve.length() + 11, 1);
        StringBuilder eight = new StringBuilder(OP_A);
        for (int i = 0; i < 8; i++) {
            eight.append("instr i").append(i).append(":a;");
        }
        due(eight.toString(), 8);
        dueError(eight + "instr i8:a;", eight.length(), 5);
        String ten = OP_A + "instr x:a,a,a,a,a,a,a,a,a,a";
        due(ten + ";", 1);
        dueError(ten + ",a;", ten.length() + 1, 5);
        dueError(ten + ",b;", ten.length() + 1, 4);
        dueError(ten + ",r1;", ten.length() + 1, 1);
        due(ten + "!a;", 1);
        String most = ten + "!a,a,a,a,a,a,a,a,a,a!a,a,a,a";
        due(most + ";", 1);
        dueError(most + ",a;", most.length() + 1, 5);
        dueError(most + "!a;", most.length() + 1, 5);
        dueError(most + "!b;", most.length() + 1, 4);
        String longest = " ".repeat(1200 - OP_A.length());
        due(longest + OP_A, 0);
        dueError(longest + OP_A.substring(0, 16) + ",", 1199, 1);
        dueError("op" + " ".repeat(1198), 1200, 1);
        dueError(longest.substring(1) + "op a unit 0 r0=100", 1200, 1);
        dueError(" ".repeat(1195) + "op ab", 1200, 1);
        dueTruncated("op a unit 0 r0=12345", 16, -(8 * 16 + 1));
        dueTruncated("op a unit 0 r0=1 ;  ", 16, -(8 * 16 + 1));
        dueTruncated("op abcdefghijklmnopq", 6, -(8 * 6 + 1));
        dueTruncated("op a unit 0 r0=1;  ?", 19, 0);
    }

    /** What stands behind the end of the text is no part of it. */
    private static void dueTruncated(String twenty, int length, int answer) {
        MicrocodeOptimizer x = new MicrocodeOptimizer();
        Check.put(x, twenty);
        CHECK.due("truncate", x.truncate(length), true);
        CHECK.due("load of " + length + " of " + twenty, x.load(), answer);
    }

    private static void failedLoadKeeps() {
        MicrocodeOptimizer x = Check.loaded(OP_A + "op b unit 1 r1=2;instr x:a,b;", 1);
        x.setMark(0, 0, true);
        x.setRegister(3, 4);
        x.start(0, 1);
        CHECK.due("interrupted", x.address(), 1);
        CHECK.due("failed load", Check.load(x, "op c unit 2 r2=3;instr y:c,d;"), -(8 * 27 + 4));
        CHECK.due("buffer is empty", x.bufferLength(), 0);
        CHECK.due("source stays", Check.written(x), OP_A + "op b unit 1 r1=2;instr x:a!b;");
        CHECK.due("still interrupted", x.address(), 1);
        CHECK.due("words stay", Check.words(x, 0), "1 2");
        CHECK.due("change stays", x.undo(), 0);
        CHECK.due("undone", Check.words(x, 0), "3");
    }

    private static void find() {
        MicrocodeOptimizer x = Check.loaded("op a unit 0 r0=1;op abcdefgh unit 0 r0=1;instr b:a;instr c1:a;", 0);
        CHECK.due("find a", Check.find(x, "a"), 0);
        CHECK.due("find empties", x.bufferLength(), 0);
        CHECK.due("find abcdefgh", Check.find(x, "abcdefgh"), 1);
        CHECK.due("find b", Check.find(x, "b"), 100);
        CHECK.due("find c1", Check.find(x, "c1"), 101);
        CHECK.due("find c", Check.find(x, "c"), -1);
        CHECK.due("find nothing", x.find(), -1);
        CHECK.due("find with a space behind", Check.find(x, "a "), -1);
        CHECK.due("find with a space before", Check.find(x, " a"), -1);
        CHECK.due("find with a zero before", Check.find(x, "\0a"), -1);
        CHECK.due("find with a zero behind", Check.find(x, "a\0"), -1);
        CHECK.due("find abcdefghi", Check.find(x, "abcdefghi"), -1);
        CHECK.due("find xabcdefgh", Check.find(x, "xabcdefgh"), -1);
        CHECK.due("find A", Check.find(x, "A"), -1);
        CHECK.due("find in vain empties", x.bufferLength(), 0);
    }

    private static void write() {
        MicrocodeOptimizer x = new MicrocodeOptimizer();
        CHECK.due("write nothing", Check.written(x), "");
        Check.load(x, " op a unit 0005r7 = 0000 ;op b unit 0 r0=r1 + 0100;op c1 unit 3 r2=1-r0;op d unit 0 r0=1000*9999;\n"
                + "op e unit 0 r0=r7&r6;op f unit 0 r0=1|2;op g unit 0 r0=10^r3;"
                + "instr abcdefgh : a , b ! c1;instr j:d;");
        String text = "op a unit 5 r7=0;op b unit 0 r0=r1+100;op c1 unit 3 r2=1-r0;op d unit 0 r0=1000*9999;"
                + "op e unit 0 r0=r7&r6;op f unit 0 r0=1|2;op g unit 0 r0=10^r3;instr abcdefgh:a,b!c1;instr j:d;";
        CHECK.due("write", Check.written(x), text);
        CHECK.due("write once more", x.write(), text.length());
        x.setMark(0, 0, true);
        x.setMark(0, 1, false);
        CHECK.due("write with other marks", Check.written(x), text.replace("a,b!c1", "a!b,c1"));
        Check.load(x, OP_A);
        CHECK.due("the output stays till the next write", x.outputByte(text.length() - 1), ';');
        CHECK.due("a shorter text", Check.written(x), OP_A);
    }

    private static void outputByte() {
        MicrocodeOptimizer x = Check.loaded(OP_A, 0);
        CHECK.dueThrow("outputByte before write", NoSuchElementException.class, () -> x.outputByte(0));
        CHECK.due("write", x.write(), 17);
        CHECK.due("outputByte(0)", x.outputByte(0), 'o');
        CHECK.due("outputByte(2)", x.outputByte(2), ' ');
        CHECK.due("outputByte(16)", x.outputByte(16), ';');
        CHECK.dueThrow("outputByte(17)", NoSuchElementException.class, () -> x.outputByte(17));
        CHECK.dueThrow("outputByte(-1)", NoSuchElementException.class, () -> x.outputByte(-1));
        CHECK.dueThrow("outputByte(min)", NoSuchElementException.class, () -> x.outputByte(Integer.MIN_VALUE));
        CHECK.dueThrow("outputByte(max)", NoSuchElementException.class, () -> x.outputByte(Integer.MAX_VALUE));
    }
}
