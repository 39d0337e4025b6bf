/** Promises 32 to 38: registers and execution. */
public final class ExecutionTest {
    private static final Check CHECK = new Check();

    public static void main(String[] args) {
        registers();
        kinds();
        runSource();
        readsBeforeWrites();
        interrupts();
        exceptionOrder();
        agrees();
        CHECK.end();
    }

    private static void registers() {
        MicrocodeOptimizer x = new MicrocodeOptimizer();
        for (int r = 0; r < 8; r++) {
            CHECK.due("setRegister " + r, x.setRegister(r, Integer.MIN_VALUE + r), 0);
        }
        for (int r = 0; r < 8; r++) {
            CHECK.due("register " + r, x.register(r), Integer.MIN_VALUE + r);
            CHECK.due("setRegister again " + r, x.setRegister(r, 1), Integer.MIN_VALUE + r);
        }
        for (int bad : new int[] {8, -1, Integer.MAX_VALUE, Integer.MIN_VALUE}) {
            CHECK.dueThrow("register " + bad, IndexOutOfBoundsException.class, () -> x.register(bad));
            CHECK.dueThrow("setRegister " + bad, IndexOutOfBoundsException.class, () -> x.setRegister(bad, 1));
        }
    }

    private static void kinds() {
        String[] signs = {"+", "-", "*", "&", "|", "^"};
        int a = 0x7ffffff3;
        int b = 0x40000015;
        int[] due = {a + b, a - b, a * b, a & b, a | b, a ^ b};
        for (int k = 0; k < 6; k++) {
            MicrocodeOptimizer x = Check.loaded("op o unit 0 r2=r0" + signs[k] + "r1;op p unit 1 r3=9" + signs[k]
                    + "r1;op q unit 2 r4=r0" + signs[k] + "7;instr x:o,p,q;", 1);
            x.setRegister(0, a);
            x.setRegister(1, b);
            x.runSource(0);
            CHECK.due("r0 " + signs[k] + " r1", x.register(2), due[k]);
            int fromSource = x.register(3) ^ 31 * x.register(4);
            x.setRegister(2, 0);
            x.setRegister(3, 0);
            x.setRegister(4, 0);
            CHECK.due("start", x.start(0, 5), 1);
            CHECK.due("r0 " + signs[k] + " r1 from the store", x.register(2), due[k]);
            CHECK.due("constants " + signs[k], x.register(3) ^ 31 * x.register(4), fromSource);
        }
        MicrocodeOptimizer x = Check.loaded("op o unit 0 r2=r0;op p unit 1 r3=9999;op q unit 2 r4=5-7;instr x:o,p,q;", 0);
        x.setRegister(0, -3);
        x.runSource(0);
        CHECK.due("the first operand alone", x.register(2), -3);
        CHECK.due("a constant alone", x.register(3), 9999);
        CHECK.due("constants", x.register(4), -2);
    }

    private static void runSource() {
        MicrocodeOptimizer x = Check.loaded("op a unit 0 r0=r0+1;op b unit 1 r1=r0*r0;instr x:a,b!a;instr y:b;", 2);
        CHECK.due("runSource(0)", x.runSource(0), 3);
        CHECK.due("r0", x.register(0), 2);
        CHECK.due("r1", x.register(1), 1);
        CHECK.due("runSource(1)", x.runSource(1), 1);
        CHECK.due("r1", x.register(1), 4);
        CHECK.due("idle", x.address(), -1);
        CHECK.dueThrow("runSource(2)", IndexOutOfBoundsException.class, () -> x.runSource(2));
        CHECK.dueThrow("runSource(-1)", IndexOutOfBoundsException.class, () -> x.runSource(-1));
        x.start(0, 0);
        CHECK.dueThrow("runSource while interrupted", IllegalStateException.class, () -> x.runSource(0));
        CHECK.dueThrow("runSource(2) while interrupted", IndexOutOfBoundsException.class, () -> x.runSource(2));
        CHECK.due("r0 stays", x.register(0), 2);
    }

    private static void readsBeforeWrites() {
        // In the source b writes r0 behind a's reading; in one word a must still read the old r0.
        MicrocodeOptimizer x = Check.loaded("op b unit 1 r0=r2;op a unit 0 r1=r0;instr x:a,b;", 1);
        CHECK.due("one word", Check.words(x, 0), "3");
        x.setRegister(0, 10);
        x.setRegister(2, 20);
        CHECK.due("start", x.start(0, 1), 1);
        CHECK.due("the old value", x.register(1), 10);
        CHECK.due("the new value", x.register(0), 20);
    }

    private static void interrupts() {
        // In mode 0 the words 1, 3 and 4 are safe.
        MicrocodeOptimizer x = Check.loaded("op a unit 0 r0=r0+1;instr x:a,a!a,a!a;", 0);
        int[] executed = {0, 2, 2, 4, 4, 5, 5};
        for (int words = 0; words < executed.length; words++) {
            x.setRegister(0, 0);
            CHECK.due("start after " + words, x.start(0, words), executed[words]);
            CHECK.due("r0 after " + words, x.register(0), executed[words]);
            CHECK.due("address after " + words, x.address(), executed[words] == 5 ? -1 : executed[words]);
            if (executed[words] < 5) {
                CHECK.due("agrees while interrupted", x.agrees(0), true);
                CHECK.due("address stays", x.address(), executed[words]);
                CHECK.dueThrow("start while interrupted", IllegalStateException.class, () -> x.start(0, 1));
                x.setRegister(0, 100);
                CHECK.due("address still stays", x.address(), executed[words]);
                CHECK.due("resume after " + words, x.resume(), 5 - executed[words]);
                CHECK.due("r0 in the end", x.register(0), 105 - executed[words]);
            }
            CHECK.due("idle in the end", x.address(), -1);
            CHECK.dueThrow("resume when idle", IllegalStateException.class, () -> x.resume());
        }
        CHECK.due("start after very many", x.start(0, Integer.MAX_VALUE), 5);
        MicrocodeOptimizer y = Check.loaded("op a unit 0 r0=1;op b unit 0 r1=2;op c unit 0 r2=3;"
                + "instr x:a!b,c;instr y:c!b,c;", 0);
        CHECK.due("into shared words", y.start(1, 1), 1);
        CHECK.due("the next address is the other's", y.address(), 1);
        CHECK.due("resume there", y.resume(), 2);
        CHECK.due("r0 is not written", y.register(0), 0);
        CHECK.due("an interrupt at the entry of shared words", y.start(0, 0), 0);
        CHECK.due("its address", y.address(), 0);
    }

    private static void exceptionOrder() {
        MicrocodeOptimizer x = Check.loaded("op a unit 0 r0=r0+1;instr x:a;", 0);
        CHECK.dueThrow("start(1, -1)", IndexOutOfBoundsException.class, () -> x.start(1, -1));
        CHECK.dueThrow("start(-1, 1)", IndexOutOfBoundsException.class, () -> x.start(-1, 1));
        CHECK.dueThrow("start(0, -1)", IllegalArgumentException.class, () -> x.start(0, -1));
        CHECK.dueThrow("start(0, min)", IllegalArgumentException.class, () -> x.start(0, Integer.MIN_VALUE));
        CHECK.due("still idle", x.address(), -1);
        x.start(0, 0);
        CHECK.dueThrow("start(1, -1) while interrupted", IndexOutOfBoundsException.class, () -> x.start(1, -1));
        CHECK.dueThrow("start(0, -1) while interrupted", IllegalArgumentException.class, () -> x.start(0, -1));
        CHECK.dueThrow("start(0, 0) while interrupted", IllegalStateException.class, () -> x.start(0, 0));
        CHECK.due("still interrupted", x.address(), 0);
        CHECK.due("nothing executed", x.register(0), 0);
    }

    private static void agrees() {
        MicrocodeOptimizer x = Check.loaded("op a unit 0 r0=r1+r2;op b unit 1 r3=r0;op c unit 0 r1=5;op d unit 2 r4=r4^r4;"
                + "instr x:a,b,c,d;instr y:d!b,c,d;", 0);
        for (int r = 0; r < 8; r++) {
            x.setRegister(r, 1000 + r);
        }
        for (int mode = 0; mode < 3; mode++) {
            x.setMode(mode);
            CHECK.due("agrees(0)", x.agrees(0), true);
            CHECK.due("agrees(1)", x.agrees(1), true);
        }
        for (int r = 0; r < 8; r++) {
            CHECK.due("register stays " + r, x.register(r), 1000 + r);
        }
        CHECK.due("idle", x.address(), -1);
        CHECK.dueThrow("agrees(2)", IndexOutOfBoundsException.class, () -> x.agrees(2));
        CHECK.dueThrow("agrees(-1)", IndexOutOfBoundsException.class, () -> x.agrees(-1));
    }
}
