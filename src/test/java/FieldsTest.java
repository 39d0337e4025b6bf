/** Promises 27 to 31: the control fields. */
public final class FieldsTest {
    private static final Check CHECK = new Check();

    public static void main(String[] args) {
        oneField();
        together();
        fewestBits();
        fewestFields();
        onePair();
        leastFirst();
        controls();
        afterChanges();
        errors();
        CHECK.end();
    }

    /** So many operations that never meet, each in a word alone. */
    private static MicrocodeOptimizer apart(int count) {
        StringBuilder text = new StringBuilder();
        StringBuilder sequence = new StringBuilder();
        for (int i = 0; i < count; i++) {
            text.append("op ").append((char) ('a' + i)).append(" unit 0 r0=1;");
            sequence.append(i == 0 ? "" : "!").append((char) ('a' + i));
        }
        return Check.loaded(text + "instr x:" + sequence + ";", 2);
    }

    private static void oneField() {
        int[] bits = {0, 1, 2, 2, 3, 3, 3, 3, 4, 4, 4, 4, 4};
        for (int n = 1; n <= 12; n++) {
            MicrocodeOptimizer x = apart(n);
            CHECK.due("fields of " + n, x.fieldCount(), 1);
            CHECK.due("bits of " + n, x.fieldBits(), bits[n]);
            CHECK.due("code of the last of " + n, x.codeOf(n - 1), n);
            CHECK.due("control of the last of " + n, x.control(n - 1), n + (1 << bits[n]));
        }
        MicrocodeOptimizer x = Check.loaded("op a unit 0 r0=1;op b unit 0 r0=1;op c unit 0 r0=1;instr x:c;", 0);
        CHECK.due("not used", Check.fields(x), "-1.0 -1.0 0.1");
        CHECK.due("bits with two that are not used", x.fieldBits(), 1);
        MicrocodeOptimizer none = Check.loaded("op a unit 0 r0=1;", 0);
        CHECK.due("no fields", none.fieldCount(), 0);
        CHECK.due("no bits", none.fieldBits(), 0);
        CHECK.due("no field of a", Check.fields(none), "-1.0");
    }

    /** An instruction of one word for each pair that is together. */
    private static MicrocodeOptimizer pairs(int count, String... pairs) {
        StringBuilder text = new StringBuilder();
        for (int i = 0; i < count; i++) {
            text.append("op ").append((char) ('a' + i)).append(" unit ").append(i % 6).append(" r").append(i % 8).append("=1;");
        }
        text.append("instr x:a");
        for (int i = 1; i < count; i++) {
            text.append('!').append((char) ('a' + i));
        }
        text.append(';');
        for (int i = 0; i < pairs.length; i++) {
            text.append("instr y").append(i).append(':').append(pairs[i]).append(';');
        }
        return Check.loaded(text.toString(), 1);
    }

    private static void together() {
        CHECK.due("two apart", Check.fields(pairs(2)), "0.1 0.2");
        CHECK.due("two together", Check.fields(pairs(2, "a,b")), "0.1 1.1");
        MicrocodeOptimizer x = pairs(6, "a,b,c,d,e,f");
        CHECK.due("six together", Check.fields(x), "0.1 1.1 2.1 3.1 4.1 5.1");
        CHECK.due("six bits", x.fieldBits(), 6);
        CHECK.due("six fields", x.fieldCount(), 6);
    }

    private static void fewestBits() {
        // Four operations need 3 bits; a with one field of three needs 3 too, but more fields.
        CHECK.due("four", Check.fields(pairs(4)), "0.1 0.2 0.3 0.4");
        // a and b part: 3 + 1 has 3 bits, 2 + 2 has 4; the least first field is a alone.
        MicrocodeOptimizer x = pairs(4, "a,b");
        CHECK.due("a alone", Check.fields(x), "0.1 1.1 1.2 1.3");
        CHECK.due("its bits", x.fieldBits(), 3);
        // Eight operations with a and b apart: 7 + 1.
        MicrocodeOptimizer y = pairs(8, "a,b");
        CHECK.due("one and seven", Check.fields(y), "0.1 1.1 1.2 1.3 1.4 1.5 1.6 1.7");
        CHECK.due("its bits", y.fieldBits(), 4);
    }

    private static void fewestFields() {
        // Two alone have 2 bits in one field and in two fields.
        MicrocodeOptimizer x = pairs(3, "a,b");
        CHECK.due("three with a pair", Check.fields(x), "0.1 1.1 1.2");
        CHECK.due("bits", x.fieldBits(), 3);
        CHECK.due("fields", x.fieldCount(), 2);
        // c is with a and b: then a and b share a field although two fields of one have as few bits.
        MicrocodeOptimizer y = pairs(3, "a,c", "b,c");
        CHECK.due("a and b share", Check.fields(y), "0.1 0.2 1.1");
        CHECK.due("fields", y.fieldCount(), 2);
    }

    /** b and c are together, so that a shares its field with one of them or there are three fields. */
    private static void onePair() {
        String[] fields = {"", "", "", "0.1 0.2 1.1", "0.1 0.2 1.1 0.3", "0.1 0.2 1.1 1.2 1.3", "0.1 0.2 1.1 0.3 1.2 1.3",
            "0.1 0.2 1.1 0.3 0.4 0.5 0.6", "0.1 0.2 1.1 0.3 0.4 0.5 0.6 0.7", "0.1 0.2 1.1 1.2 1.3 1.4 1.5 1.6 1.7",
            "0.1 0.2 1.1 0.3 1.2 1.3 1.4 1.5 1.6 1.7", "0.1 0.2 1.1 0.3 0.4 0.5 0.6 0.7 0.8 0.9 0.10",
            "0.1 0.2 1.1 0.3 0.4 0.5 0.6 0.7 0.8 0.9 0.10 0.11"};
        int[] bits = {0, 0, 0, 2 + 1, 2 + 1, 2 + 2, 2 + 2, 3 + 1, 3 + 1, 2 + 3, 2 + 3, 4 + 1, 4 + 1};
        for (int n = 3; n <= 12; n++) {
            MicrocodeOptimizer x = pairs(n, "b,c");
            CHECK.due("fields of " + n + " with a pair", Check.fields(x), fields[n]);
            CHECK.due("bits of " + n + " with a pair", x.fieldBits(), bits[n]);
            CHECK.due("number of fields of " + n + " with a pair", x.fieldCount(), 2);
        }
    }

    private static void leastFirst() {
        // a,c / b,d and a,d / b,c have as many bits: a,c is the lesser mask.
        CHECK.due("the least first field", Check.fields(pairs(4, "a,b", "c,d")), "0.1 1.1 0.2 1.2");
        // The first and the last of twelve share a field that is not the last one.
        MicrocodeOptimizer x = Check.loaded(Sources.counters(1) + "op b unit 1 r1=1;" + Sources.counters(12).substring(40)
                + "instr x:a,b;instr y:b,l;", 1);
        CHECK.due("the first and the last", x.fieldOf(0) == 0 && x.fieldOf(11) == 0 && x.fieldOf(1) == 1, true);
        CHECK.due("their codes", 100 * x.codeOf(0) + 10 * x.codeOf(1) + x.codeOf(11), 112);
        // Two fields of 3 of five: 7 masks are thinkable, a,d,e and a,c,d and so on; the least that is allowed wins.
        CHECK.due("three and two", Check.fields(pairs(5, "a,b", "c,d")), "0.1 1.1 0.2 1.2 1.3");
    }

    private static void controls() {
        MicrocodeOptimizer x = Check.loaded("op a unit 0 r0=1;op b unit 1 r1=1;op c unit 2 r2=r1;op d unit 0 r3=1;"
                + "instr x:a,b,c;instr y:d!c;", 1);
        CHECK.due("the store", Check.store(x), "3>1 4s>-1 8s>1");
        CHECK.due("the fields", Check.fields(x), "0.1 1.1 1.2 1.3");
        CHECK.due("control(0)", x.control(0), 1 + 2 * 1);
        CHECK.due("control(1)", x.control(1), 2 * 2 + 8);
        CHECK.due("control(2)", x.control(2), 2 * 3 + 8);
    }

    private static void afterChanges() {
        MicrocodeOptimizer x = Check.loaded("op a unit 0 r0=1;op b unit 1 r1=1;instr x:a,b;", 0);
        CHECK.due("one by one", Check.fields(x), "0.1 0.2");
        CHECK.due("control one by one", x.control(1), 2 + 4);
        x.setMode(1);
        CHECK.due("by list", Check.fields(x), "0.1 1.1");
        CHECK.due("control by list", x.control(0), 1 + 2 + 4);
        x.setMark(0, 0, true);
        CHECK.due("with a mark", Check.fields(x), "0.1 0.2");
        x.undo();
        CHECK.due("undone", Check.fields(x), "0.1 1.1");
        // Four operations together need more than three of which one is with the others.
        MicrocodeOptimizer y = pairs(4, "a,b,c,d", "a,b", "b,c", "b,d");
        CHECK.due("four together", Check.fields(y), "0.1 1.1 2.1 3.1");
        y.setMark(1, 0, true);
        y.setMark(1, 1, true);
        y.setMark(1, 2, true);
        CHECK.due("b with the others", Check.fields(y), "0.1 1.1 0.2 0.3");
        CHECK.due("its bits", y.fieldBits(), 3);
        Check.load(x, "op a unit 0 r0=1;instr x:a;");
        CHECK.due("another source", Check.fields(x), "0.1");
        CHECK.due("bits", x.fieldBits(), 1);
    }

    private static void errors() {
        MicrocodeOptimizer x = Check.loaded("op a unit 0 r0=1;op b unit 1 r1=1;instr x:a,b;", 0);
        for (int bad : new int[] {2, -1, 12, Integer.MAX_VALUE, Integer.MIN_VALUE}) {
            CHECK.dueThrow("fieldOf " + bad, IndexOutOfBoundsException.class, () -> x.fieldOf(bad));
            CHECK.dueThrow("codeOf " + bad, IndexOutOfBoundsException.class, () -> x.codeOf(bad));
            CHECK.dueThrow("control " + bad, IndexOutOfBoundsException.class, () -> x.control(bad));
        }
    }
}
