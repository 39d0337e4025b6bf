/** Promises 24 to 26: the store. */
public final class StoreTest {
    private static final Check CHECK = new Check();
    private static final String OPS = "op a unit 0 r0=1;op b unit 1 r1=2;op c unit 2 r2=3;op d unit 3 r3=4;";

    public static void main(String[] args) {
        sharedEnds();
        safeMatters();
        wholeOnes();
        noMiddle();
        errors();
        CHECK.end();
    }

    private static void due(String what, String instructions, String store, int... entries) {
        MicrocodeOptimizer x = Check.loaded(OPS + instructions, 0);
        CHECK.due(what, Check.store(x), store);
        for (int i = 0; i < entries.length; i++) {
            CHECK.due(what + ", entry " + i, x.entry(i), entries[i]);
        }
    }

    private static void sharedEnds() {
        due("two ends", "instr x:a,b,c;instr y:d,b,c;", "1>1 2>2 4s>-1 8>1", 0, 3);
        due("three", "instr x:a,b,c;instr y:d,b,c;instr z:a,d,b,c;", "1>1 2>2 4s>-1 8>1 1>3", 0, 3, 4);
        due("the longest end counts", "instr w:c;instr x:b,c;instr y:a,b,c;", "4s>-1 2>0 1>1", 0, 1, 2);
        due("nothing alike", "instr x:a,b;instr y:b,a;", "1>1 2s>-1 2>3 1s>-1", 0, 2);
    }

    private static void safeMatters() {
        due("safe in one only", "instr x:a,b,c;instr y:d,b!c;", "1>1 2>2 4s>-1 8>4 2s>2", 0, 3);
        due("safe in both", "instr x:a,b!c;instr y:d,b!c;", "1>1 2s>2 4s>-1 8>1", 0, 3);
    }

    private static void wholeOnes() {
        due("the same again", "instr x:a,b;instr y:a,b;", "1>1 2s>-1", 0, 0);
        due("an end of another", "instr x:a,b,c;instr y:b,c;instr z:c;", "1>1 2>2 4s>-1", 0, 1, 2);
        MicrocodeOptimizer x = Check.loaded(OPS + "instr x:a,b,c;instr y:b,c;instr z:c;instr w:d,c;instr v:b,c;", 0);
        CHECK.due("users of 0", x.store(0, 3), 1);
        CHECK.due("users of 1", x.store(1, 3), 3);
        CHECK.due("users of 2", x.store(2, 3), 5);
        CHECK.due("users of 3", x.store(3, 3), 1);
        CHECK.due("size", x.storeSize(), 4);
        CHECK.due("setMode answers the size", x.setMode(1), 4);
        CHECK.due("by list", Check.store(x), "7s>-1 6s>-1 4s>-1 12s>-1");
        CHECK.due("entry of v", x.entry(4), 1);
        CHECK.due("users by list", x.store(1, 3), 2);
    }

    private static void noMiddle() {
        due("only ends are shared", "instr x:a,b,c;instr y:a,b;", "1>1 2>2 4s>-1 1>4 2s>-1", 0, 3);
        due("no sharing within one", "instr x:a!a!a;", "1s>1 1s>2 1s>-1", 0);
        due("a longer one of the same", "instr x:a!a;instr y:a!a!a;instr z:a;", "1s>1 1s>-1 1s>0", 0, 2, 1);
    }

    private static void errors() {
        MicrocodeOptimizer x = Check.loaded(OPS + "instr x:a,b;", 0);
        CHECK.due("store(1, 0)", x.store(1, 0), 2);
        CHECK.due("store(1, 1)", x.store(1, 1), 1);
        CHECK.due("store(0, 1)", x.store(0, 1), 0);
        CHECK.due("store(1, 2)", x.store(1, 2), MicrocodeOptimizer.NONE);
        CHECK.dueThrow("store(2, 0)", IndexOutOfBoundsException.class, () -> x.store(2, 0));
        CHECK.dueThrow("store(-1, 0)", IndexOutOfBoundsException.class, () -> x.store(-1, 0));
        CHECK.dueThrow("store(2, 4)", IndexOutOfBoundsException.class, () -> x.store(2, 4));
        CHECK.dueThrow("store(0, 4)", IllegalArgumentException.class, () -> x.store(0, 4));
        CHECK.dueThrow("store(0, -1)", IllegalArgumentException.class, () -> x.store(0, -1));
        CHECK.dueThrow("entry(1)", IndexOutOfBoundsException.class, () -> x.entry(1));
        CHECK.dueThrow("entry(-1)", IndexOutOfBoundsException.class, () -> x.entry(-1));
        CHECK.due("an empty store", Check.load(x, OPS), 0);
        CHECK.due("its size", x.storeSize(), 0);
        CHECK.dueThrow("its word 0", IndexOutOfBoundsException.class, () -> x.store(0, 0));
    }
}
