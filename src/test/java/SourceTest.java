/** Promises 9 to 15: what the source has. */
public final class SourceTest {
    private static final Check CHECK = new Check();
    private static final String TEXT = "op a unit 0 r0=r1+r2;op b unit 5 r7=r0;op c unit 1 r1=5-r7;op d unit 2 r4=r4^r4;"
            + "op e unit 3 r3=9*9;op f unit 4 r5=r6&1;op g unit 4 r6=r6|r5;"
            + "instr x:a,b,c,d;instr y:d!b,c,d!d;instr z:f;";

    public static void main(String[] args) {
        counts();
        operation();
        sequence();
        dependence();
        CHECK.end();
    }

    private static void counts() {
        MicrocodeOptimizer x = Check.loaded(TEXT, 0);
        CHECK.due("operationCount", x.operationCount(), 7);
        CHECK.due("instructionCount", x.instructionCount(), 3);
        Check.load(x, "op a unit 0 r0=1;");
        CHECK.due("operationCount then", x.operationCount(), 1);
        CHECK.due("instructionCount then", x.instructionCount(), 0);
    }

    private static void operation() {
        MicrocodeOptimizer x = Check.loaded(TEXT, 0);
        int[][] due = {
            {0, 0, 1, 6, 1}, {5, 7, 0, 1, 2}, {1, 1, 2, 128, 2}, {2, 4, 6, 16, 4},
            {3, 3, 3, 0, 0}, {4, 5, 4, 64, 1}, {4, 6, 5, 96, 0}
        };
        for (int m = 0; m < 7; m++) {
            for (int what = 0; what < 5; what++) {
                CHECK.due("operation(" + m + ", " + what + ")", x.operation(m, what), due[m][what]);
            }
        }
        CHECK.dueThrow("operation(7, 0)", IndexOutOfBoundsException.class, () -> x.operation(7, 0));
        CHECK.dueThrow("operation(-1, 0)", IndexOutOfBoundsException.class, () -> x.operation(-1, 0));
        CHECK.dueThrow("operation(7, 5)", IndexOutOfBoundsException.class, () -> x.operation(7, 5));
        CHECK.dueThrow("operation(6, 5)", IllegalArgumentException.class, () -> x.operation(6, 5));
        CHECK.dueThrow("operation(0, -1)", IllegalArgumentException.class, () -> x.operation(0, -1));
    }

    private static void sequence() {
        MicrocodeOptimizer x = Check.loaded(TEXT, 2);
        CHECK.due("length(0)", x.length(0), 4);
        CHECK.due("length(1)", x.length(1), 5);
        CHECK.due("length(2)", x.length(2), 1);
        CHECK.dueThrow("length(3)", IndexOutOfBoundsException.class, () -> x.length(3));
        CHECK.dueThrow("length(-1)", IndexOutOfBoundsException.class, () -> x.length(-1));
        int[] y = {3, 1, 2, 3, 3};
        boolean[] marks = {true, false, false, true, false};
        for (int k = 0; k < 5; k++) {
            CHECK.due("operationAt(1, " + k + ")", x.operationAt(1, k), y[k]);
            CHECK.due("hasMark(1, " + k + ")", x.hasMark(1, k), marks[k]);
        }
        CHECK.due("operationAt(2, 0)", x.operationAt(2, 0), 5);
        for (int[] bad : new int[][] {{3, 0}, {-1, 0}, {0, 4}, {1, 5}, {2, 1}, {0, -1}, {0, Integer.MIN_VALUE}}) {
            String where = "(" + bad[0] + ", " + bad[1] + ")";
            CHECK.dueThrow("operationAt" + where, IndexOutOfBoundsException.class, () -> x.operationAt(bad[0], bad[1]));
            CHECK.dueThrow("hasMark" + where, IndexOutOfBoundsException.class, () -> x.hasMark(bad[0], bad[1]));
        }
    }

    private static void dependence() {
        // a reads 1 and 2 and writes 0; b reads 0, writes 7; c reads 7, writes 1; h writes 0 as a does, reading nothing.
        MicrocodeOptimizer x = Check.loaded("op a unit 0 r0=r1+r2;op b unit 0 r7=r0;op c unit 0 r1=r7;op h unit 0 r0=1;"
                + "op i unit 0 r1=r0;instr x:a,b,c,h,a;instr y:a!b,c;instr z:a,i;", 0);
        int[][] due = {
            {0, 2, 1, 2, 2}, {0, 0, 2, 1, 1}, {0, 0, 0, 0, 2}, {0, 0, 0, 0, 2}, {0, 0, 0, 0, 0}
        };
        for (int i = 0; i < 5; i++) {
            for (int j = 0; j < 5; j++) {
                CHECK.due("dependence(0, " + i + ", " + j + ")", x.dependence(0, i, j), due[i][j]);
            }
        }
        CHECK.due("other segments", x.dependence(1, 0, 1), 3);
        CHECK.due("other segments further on", x.dependence(1, 0, 2), 3);
        CHECK.due("other segments backwards", x.dependence(1, 2, 0), 0);
        CHECK.due("the same segment", x.dependence(1, 1, 2), 2);
        CHECK.due("strict goes before weak", x.dependence(2, 0, 1), 2);
        x.setMark(0, 1, true);
        CHECK.due("a new mark", x.dependence(0, 0, 2), 3);
        CHECK.due("before the new mark", x.dependence(0, 0, 1), 2);
        CHECK.dueThrow("dependence(3, 0, 0)", IndexOutOfBoundsException.class, () -> x.dependence(3, 0, 0));
        CHECK.dueThrow("dependence(0, 5, 0)", IndexOutOfBoundsException.class, () -> x.dependence(0, 5, 0));
        CHECK.dueThrow("dependence(0, 0, 5)", IndexOutOfBoundsException.class, () -> x.dependence(0, 0, 5));
        CHECK.dueThrow("dependence(0, -1, 1)", IndexOutOfBoundsException.class, () -> x.dependence(0, -1, 1));
        CHECK.dueThrow("dependence(0, 1, -1)", IndexOutOfBoundsException.class, () -> x.dependence(0, 1, -1));
    }
}
