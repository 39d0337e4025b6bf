/** Texts of sources at the limits of the document. */
final class Sources {
    static final String OP_A = "op a unit 0 r0=1;";

    private Sources() {
    }

    /** So many operations a, b, c, .. that add 1 to r0: each two of them depend strictly, so that all modes pack alike. */
    static String counters(int count) {
        StringBuilder text = new StringBuilder();
        for (int m = 0; m < count; m++) {
            text.append("op ").append(letter(m)).append(" unit 0 r0=r0+1;");
        }
        return text.toString();
    }

    static char letter(int operation) {
        return (char) ('a' + operation);
    }

    /** An instruction that is the operation a so many times, with a mark behind every so many of them. */
    static String repeated(String name, int times, int segment) {
        StringBuilder text = new StringBuilder("instr " + name + ":");
        for (int k = 0; k < times; k++) {
            text.append(k == 0 ? "" : k % segment == 0 ? "!" : ",").append('a');
        }
        return text.append(';').toString();
    }

    /** So many instructions i0, i1, .. that are the operation a alone. */
    static String singles(int count) {
        StringBuilder text = new StringBuilder();
        for (int i = 0; i < count; i++) {
            text.append("instr i").append(i).append(":a;");
        }
        return text.toString();
    }

    /** The operation at an index of an instruction of fullest(): the last ones of all instructions are different. */
    static int fullestAt(int instruction, int index) {
        return (index + instruction + 1) % 12;
    }

    /** 12 operations and 8 instructions of 24, with segments of 10, 10 and 4, no two of which end alike. */
    static String fullest() {
        StringBuilder text = new StringBuilder(counters(12));
        for (int i = 0; i < 8; i++) {
            text.append("instr i").append(i);
            for (int k = 0; k < 24; k++) {
                text.append(k == 0 ? ':' : k % 10 == 0 ? '!' : ',').append(letter(fullestAt(i, k)));
            }
            text.append(';');
        }
        return text.toString();
    }
}
