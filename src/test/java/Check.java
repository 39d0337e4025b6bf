import java.nio.charset.StandardCharsets;

/** What the tests share: texts go in, answers are compared, wrong ones are printed and counted. */
final class Check {
    /** A call whose exception is looked at. */
    interface Call {
        void run();
    }

    private int checked = 0;
    private int wrong = 0;

    void due(String what, long got, long want) {
        checked++;
        if (got != want) {
            wrong++;
            System.out.println(what + " answered " + got + ", due is " + want);
        }
    }

    void due(String what, boolean got, boolean want) {
        due(what, got ? 1 : 0, want ? 1 : 0);
    }

    void due(String what, String got, String want) {
        checked++;
        if (!got.equals(want)) {
            wrong++;
            System.out.println(what + " answered \"" + got + "\", due is \"" + want + "\"");
        }
    }

    void dueThrow(String what, Class<? extends RuntimeException> want, Call call) {
        checked++;
        String got = "nothing";
        try {
            call.run();
        } catch (RuntimeException e) {
            got = e.getClass().getName();
        }
        if (!got.equals(want.getName())) {
            wrong++;
            System.out.println(what + " threw " + got + ", due is " + want.getName());
        }
    }

    /** What load() answers to a text in a new object. */
    void dueLoad(String text, int answer) {
        due("load of " + text.replace("\n", "\\n"), load(new MicrocodeOptimizer(), text), answer);
    }

    void dueError(String text, int offset, int kind) {
        dueLoad(text, -(8 * offset + kind));
    }

    /** Call this last. */
    void end() {
        System.out.println(checked + " answers, " + wrong + " of them wrong");
        if (wrong != 0) {
            System.exit(1);
        }
    }

    /** Puts a text into the input buffer, which must be empty. */
    static void put(MicrocodeOptimizer x, String text) {
        put(x, text.getBytes(StandardCharsets.ISO_8859_1));
    }

    static void put(MicrocodeOptimizer x, byte[] bytes) {
        for (int i = 0; i < bytes.length; i += 20) {
            x.append(four(bytes, i), four(bytes, i + 4), four(bytes, i + 8), four(bytes, i + 12), four(bytes, i + 16));
        }
        x.truncate(bytes.length);
    }

    /** Four bytes as an int, zeros behind the end. */
    static int four(byte[] bytes, int at) {
        int value = 0;
        for (int i = at; i < at + 4; i++) {
            value = value << 8 | (i < bytes.length ? bytes[i] & 255 : 0);
        }
        return value;
    }

    static int load(MicrocodeOptimizer x, String text) {
        put(x, text);
        return x.load();
    }

    static int find(MicrocodeOptimizer x, String name) {
        put(x, name);
        return x.find();
    }

    /** A new object with this source in this mode. */
    static MicrocodeOptimizer loaded(String text, int mode) {
        MicrocodeOptimizer x = new MicrocodeOptimizer();
        x.setMode(mode);
        int answer = load(x, text);
        if (answer < 0) {
            throw new AssertionError("the test's text has an error: " + -answer / 8 + ", kind " + -answer % 8);
        }
        return x;
    }

    /** The output as a text. */
    static String written(MicrocodeOptimizer x) {
        int size = x.write();
        StringBuilder text = new StringBuilder();
        for (int i = 0; i < size; i++) {
            text.append((char) x.outputByte(i));
        }
        return text.toString();
    }

    /** The words of an instruction, with spaces between them. */
    static String words(MicrocodeOptimizer x, int instruction) {
        StringBuilder text = new StringBuilder();
        for (int i = 0; i < x.wordCount(instruction); i++) {
            text.append(i == 0 ? "" : " ").append(x.word(instruction, i));
        }
        return text.toString();
    }

    /** The store: set, safe and next of each word. */
    static String store(MicrocodeOptimizer x) {
        StringBuilder text = new StringBuilder();
        for (int a = 0; a < x.storeSize(); a++) {
            text.append(a == 0 ? "" : " ");
            text.append(x.store(a, 0)).append(x.store(a, 1) == 1 ? "s" : "").append('>').append(x.store(a, 2));
        }
        return text.toString();
    }

    /** The fields and codes of all operations. */
    static String fields(MicrocodeOptimizer x) {
        StringBuilder text = new StringBuilder();
        for (int m = 0; m < x.operationCount(); m++) {
            text.append(m == 0 ? "" : " ").append(x.fieldOf(m)).append('.').append(x.codeOf(m));
        }
        return text.toString();
    }
}
