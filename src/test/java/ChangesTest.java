/** Promises 16 to 19: setMode, mode, setMark and undo. */
public final class ChangesTest {
    private static final Check CHECK = new Check();
    private static final String TEXT = "op a unit 0 r0=1;op b unit 1 r1=2;op c unit 1 r2=3;";

    public static void main(String[] args) {
        modes();
        marks();
        tooLongSegments();
        undoes();
        onlyEight();
        equalChangesCount();
        changesMakeIdle();
        CHECK.end();
    }

    private static void modes() {
        MicrocodeOptimizer x = Check.loaded(TEXT + "instr x:a,b,c;", 0);
        CHECK.due("storeSize", x.storeSize(), 3);
        CHECK.due("setMode(1)", x.setMode(1), 2);
        CHECK.due("mode", x.mode(), 1);
        CHECK.due("setMode(2)", x.setMode(2), 2);
        CHECK.due("mode", x.mode(), 2);
        CHECK.due("words", Check.words(x, 0), "5 2");
        CHECK.due("setMode(0)", x.setMode(0), 3);
        CHECK.due("mode", x.mode(), 0);
        CHECK.dueThrow("setMode(3)", IllegalArgumentException.class, () -> x.setMode(3));
        CHECK.dueThrow("setMode(-1)", IllegalArgumentException.class, () -> x.setMode(-1));
        CHECK.due("mode", x.mode(), 0);
        CHECK.due("what throws is no change", x.undo(), 2);
    }

    private static void marks() {
        MicrocodeOptimizer x = Check.loaded(TEXT + "instr x:a,b,c;instr y:a;", 1);
        CHECK.due("storeSize", x.storeSize(), 3);
        CHECK.due("setMark(0, 0, true)", x.setMark(0, 0, true), 4);
        CHECK.due("hasMark(0, 0)", x.hasMark(0, 0), true);
        CHECK.due("words", Check.words(x, 0), "1 2 4");
        CHECK.due("the store", Check.store(x), "1s>1 2>2 4s>-1 1s>-1");
        CHECK.due("setMark(0, 0, false)", x.setMark(0, 0, false), 3);
        CHECK.due("hasMark(0, 0)", x.hasMark(0, 0), false);
        CHECK.dueThrow("behind the last one", IndexOutOfBoundsException.class, () -> x.setMark(0, 2, true));
        CHECK.dueThrow("behind the only one", IndexOutOfBoundsException.class, () -> x.setMark(1, 0, false));
        CHECK.dueThrow("no such index", IndexOutOfBoundsException.class, () -> x.setMark(0, 3, true));
        CHECK.dueThrow("index -1", IndexOutOfBoundsException.class, () -> x.setMark(0, -1, true));
        CHECK.dueThrow("no such instruction", IndexOutOfBoundsException.class, () -> x.setMark(2, 0, true));
        CHECK.dueThrow("instruction -1", IndexOutOfBoundsException.class, () -> x.setMark(-1, 0, true));
        CHECK.due("what throws is no change", x.undo(), 1);
    }

    private static void tooLongSegments() {
        MicrocodeOptimizer x = Check.loaded(TEXT + "instr x:a,b,c,a,b!c,a,b,c,a!b;instr y:a!b,c,a,b,c,a,b,c,a,b;", 0);
        x.start(0, 0);
        CHECK.dueThrow("eleven behind", IllegalStateException.class, () -> x.setMark(1, 0, false));
        CHECK.due("a throw leaves the processor alone", x.address(), 0);
        CHECK.due("the mark stays", x.hasMark(1, 0), true);
        CHECK.due("no change", x.undo(), -1);
        CHECK.due("ten are allowed", x.setMark(0, 4, false), 21);
        CHECK.dueThrow("eleven before", IllegalStateException.class, () -> x.setMark(0, 9, false));
        CHECK.due("no mark there anyway", x.setMark(0, 0, false), 21);
        CHECK.due("a mark more", x.setMark(0, 0, true), 21);
        // Now x is what y is, so all its words are shared.
        CHECK.due("ten are left", x.setMark(0, 9, false), 11);
        MicrocodeOptimizer y = Check.loaded(TEXT + "instr x:a,b,c,a,b,c,a,b,c!a!b,c,a;", 0);
        CHECK.due("nine and one", y.setMark(0, 8, false), 13);
        CHECK.dueThrow("ten and three", IllegalStateException.class, () -> y.setMark(0, 9, false));
        CHECK.dueThrow("eleven again", IllegalStateException.class, () -> x.setMark(0, 0, false));
    }

    private static void undoes() {
        MicrocodeOptimizer x = Check.loaded(TEXT + "instr x:a,b,c;", 0);
        x.setMode(2);
        x.setMark(0, 0, true);
        x.setMark(0, 0, false);
        x.setMode(1);
        CHECK.due("undo of mode 1", x.undo(), 3);
        CHECK.due("mode", x.mode(), 2);
        CHECK.due("words", Check.words(x, 0), "5 2");
        CHECK.due("undo of no mark", x.undo(), 2);
        CHECK.due("mark", x.hasMark(0, 0), true);
        CHECK.due("words", Check.words(x, 0), "1 4 2");
        CHECK.due("undo of a mark", x.undo(), 1);
        CHECK.due("mark", x.hasMark(0, 0), false);
        CHECK.due("words", Check.words(x, 0), "5 2");
        CHECK.due("undo of mode 2", x.undo(), 0);
        CHECK.due("words", Check.words(x, 0), "1 2 4");
        CHECK.due("storeSize", x.storeSize(), 3);
        CHECK.due("undo of nothing", x.undo(), -1);
        CHECK.due("registers are no part of it", x.setRegister(0, 9), 0);
        CHECK.due("still nothing", x.undo(), -1);
    }

    private static void onlyEight() {
        MicrocodeOptimizer x = Check.loaded(TEXT + "instr x:a,b,c;", 2);
        x.setMode(1);
        x.setMark(0, 0, true);
        for (int i = 0; i < 8; i++) {
            x.setMark(0, 1, i % 2 == 0);
        }
        for (int left = 7; left >= 0; left--) {
            CHECK.due("undo", x.undo(), left);
            CHECK.due("mark", x.hasMark(0, 1), left % 2 == 1);
        }
        CHECK.due("undo of the ninth", x.undo(), -1);
        CHECK.due("the older mark stays", x.hasMark(0, 0), true);
        CHECK.due("the older mode stays", x.mode(), 1);
    }

    private static void equalChangesCount() {
        MicrocodeOptimizer x = Check.loaded(TEXT + "instr x:a,b,c;", 1);
        x.setMode(1);
        x.setMark(0, 1, false);
        CHECK.due("undo of the same mark", x.undo(), 1);
        CHECK.due("undo of the same mode", x.undo(), 0);
        CHECK.due("mode", x.mode(), 1);
        CHECK.due("nothing more", x.undo(), -1);
    }

    private static void changesMakeIdle() {
        MicrocodeOptimizer x = Check.loaded(TEXT + "instr x:a,b,c;", 0);
        CHECK.due("start", x.start(0, 0), 0);
        CHECK.due("undo of nothing", x.undo(), -1);
        CHECK.due("undo of nothing changes nothing", x.address(), 0);
        x.setMode(0);
        CHECK.due("idle after setMode", x.address(), -1);
        x.start(0, 0);
        x.setMark(0, 0, false);
        CHECK.due("idle after setMark", x.address(), -1);
        x.start(0, 0);
        x.undo();
        CHECK.due("idle after undo", x.address(), -1);
        CHECK.dueThrow("resume", IllegalStateException.class, () -> x.resume());
    }
}
