/**
 * Objects that are made alike and then treated in two ways, after which no call may tell them apart. Each
 * way of looking gets objects of its own, since looking changes them, and none gets more than 512 calls.
 */
final class Twins {
    /** How an object is made. */
    interface Recipe {
        MicrocodeOptimizer make();
    }

    /** What is done with an object. */
    interface Step {
        void on(MicrocodeOptimizer x);
    }

    private static final int MOST_UNDOS = 9;
    private final Check check;

    Twins(Check check) {
        this.check = check;
    }

    /** The call throws this, and nothing is changed then. */
    void dueRefused(String what, Class<? extends RuntimeException> want, Recipe recipe, Step call) {
        check.dueThrow(what, want, () -> call.on(recipe.make()));
        dueAlike(what + " changes nothing", recipe, x -> thrown(() -> call.on(x)), x -> { });
    }

    /** The call answers, and nothing is changed then. */
    void dueUnchanged(String what, Recipe recipe, Step call) {
        dueAlike(what + " changes nothing", recipe, call, x -> { });
    }

    void dueAlike(String what, Recipe recipe, Step one, Step other) {
        for (int look = 0; look < 5 + MOST_UNDOS; look++) {
            MicrocodeOptimizer first = recipe.make();
            one.on(first);
            MicrocodeOptimizer second = recipe.make();
            other.on(second);
            check.due(what + ", look " + look, look(first, look), look(second, look));
        }
    }

    private static String look(MicrocodeOptimizer x, int look) {
        switch (look) {
            case 0:
                return visible(x);
            case 1:
                return output(x);
            case 2:
                return thrown(() -> x.resume()) + visible(x);
            case 3:
                return x.load() + " " + visible(x);
            case 4:
                return x.find() + " " + x.bufferLength();
            default:
                return undone(x, look - 4);
        }
    }

    private static String undone(MicrocodeOptimizer x, int times) {
        StringBuilder text = new StringBuilder();
        for (int n = 0; n < times; n++) {
            text.append("undo ").append(x.undo()).append(' ');
        }
        return text + visible(x);
    }

    /** What the call throws, by name. */
    static String thrown(Check.Call call) {
        try {
            call.run();
        } catch (RuntimeException e) {
            return e.getClass().getName();
        }
        return "nothing";
    }

    /** The output as it is, up to the first byte that is not there. */
    static String output(MicrocodeOptimizer x) {
        StringBuilder text = new StringBuilder();
        try {
            for (int i = 0; i < 400; i++) {
                text.append((char) x.outputByte(i));
            }
        } catch (java.util.NoSuchElementException e) {
            text.append(" end");
        }
        return text.toString();
    }

    /** All that calls answer that change nothing, but for the output. */
    static String visible(MicrocodeOptimizer x) {
        StringBuilder text = new StringBuilder();
        text.append("buffer ").append(x.bufferLength()).append(" mode ").append(x.mode());
        text.append(" address ").append(x.address()).append(" fields ").append(x.fieldCount());
        text.append(" bits ").append(x.fieldBits()).append(" registers");
        for (int r = 0; r < 8; r++) {
            text.append(' ').append(x.register(r));
        }
        for (int m = 0; m < x.operationCount(); m++) {
            text.append(" operation ").append(m);
            for (int what = 0; what < 5; what++) {
                text.append(' ').append(x.operation(m, what));
            }
            text.append(' ').append(x.fieldOf(m)).append('.').append(x.codeOf(m));
        }
        for (int i = 0; i < x.instructionCount(); i++) {
            text.append(instruction(x, i));
        }
        text.append(" store ").append(Check.store(x)).append(" controls");
        for (int a = 0; a < x.storeSize(); a++) {
            text.append(' ').append(x.control(a)).append(" of ").append(x.store(a, 3));
        }
        return text.toString();
    }

    private static String instruction(MicrocodeOptimizer x, int i) {
        StringBuilder text = new StringBuilder(" instruction " + i + ":");
        for (int k = 0; k < x.length(i); k++) {
            text.append(' ').append(x.operationAt(i, k)).append(x.hasMark(i, k) ? "!" : "");
        }
        text.append(" words ").append(Check.words(x, i)).append(" entry ").append(x.entry(i));
        text.append(" chain ").append(x.chain(i)).append(" latency ").append(x.latency(i));
        return text.append(" agrees ").append(x.agrees(i)).toString();
    }
}
