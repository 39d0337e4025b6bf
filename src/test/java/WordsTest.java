/** Promises 20 to 23: the words of the instructions. */
public final class WordsTest {
    private static final Check CHECK = new Check();

    public static void main(String[] args) {
        ties();
        units();
        listIsNotFewest();
        greatestFirst();
        weakInOneWord();
        segments();
        moreThanChainAndUnits();
        oneSegmentAfterAnother();
        errors();
        CHECK.end();
    }

    private static void due(String what, String text, String list, String fewest, int chain) {
        MicrocodeOptimizer x = Check.loaded(text, 1);
        CHECK.due(what + ", by list", Check.words(x, 0), list);
        CHECK.due(what + ", chain by list", x.chain(0), chain);
        x.setMode(2);
        CHECK.due(what + ", fewest", Check.words(x, 0), fewest);
        CHECK.due(what + ", chain with the fewest", x.chain(0), chain);
        x.setMode(0);
        CHECK.due(what + ", one by one", x.wordCount(0), x.length(0));
        for (int k = 0; k < x.length(0); k++) {
            CHECK.due(what + ", word " + k, x.word(0, k), 1 << x.operationAt(0, k));
        }
        CHECK.due(what + ", chain one by one", x.chain(0), chain);
    }

    private static void ties() {
        due("read after write", "op a unit 0 r0=1;op b unit 1 r1=r0;instr x:a,b;", "1 2", "1 2", 2);
        due("write after write", "op a unit 0 r0=1;op b unit 1 r0=2;instr x:a,b;", "1 2", "1 2", 2);
        due("write after read", "op a unit 0 r1=r0;op b unit 1 r0=2;instr x:a,b;", "3", "3", 1);
        due("none", "op a unit 0 r1=r0;op b unit 1 r2=r0;instr x:a,b;", "3", "3", 1);
        due("twice the same", "op a unit 0 r1=r0;instr x:a,a;", "1 1", "1 1", 2);
    }

    private static void units() {
        due("one unit", "op a unit 0 r0=1;op b unit 0 r1=1;op c unit 0 r2=1;instr x:a,b,c;", "1 2 4", "4 2 1", 1);
        due("a weak one of the same unit", "op a unit 0 r1=r0;op b unit 0 r0=1;instr x:a,b;", "1 2", "1 2", 1);
        due("six units", "op a unit 0 r0=1;op b unit 1 r1=1;op c unit 2 r2=1;op d unit 3 r3=1;op e unit 4 r4=1;"
                + "op f unit 5 r5=1;instr x:f,e,d,c,b,a;", "63", "63", 1);
    }

    private static void listIsNotFewest() {
        // The list takes a first, and so the chain b, c, d has to wait for the unit.
        due("the long chain first", "op a unit 0 r0=1;op b unit 0 r1=1;op c unit 1 r2=r1;op d unit 2 r3=r2;"
                + "instr x:a,b,c,d;", "1 2 4 8", "2 5 8", 3);
    }

    private static void greatestFirst() {
        // Position 2 beats 0 and 1 together: the greater set, not the fuller one.
        due("greatest set", "op a unit 0 r0=1;op b unit 1 r1=1;op c unit 0 r2=1;op d unit 1 r3=1;instr x:a,b,c,d;",
                "3 12", "12 3", 1);
        // Position p is the operation 2 - p here, so that sets of positions and of operations differ.
        due("positions, not operations", "op a unit 0 r0=1;op b unit 1 r1=1;op c unit 0 r2=1;instr x:c,b,a;",
                "6 1", "3 4", 1);
    }

    private static void weakInOneWord() {
        // b may not go before a; they go together or a goes first.
        due("a weak chain", "op a unit 0 r1=r0;op b unit 1 r0=r2;op c unit 2 r2=1;instr x:a,b,c;", "7", "7", 1);
        // A chain goes through weak dependences too, which take no word of their own.
        due("strict, weak, strict", "op a unit 0 r1=1;op b unit 1 r2=r1+r3;op c unit 2 r3=5;op d unit 3 r4=r3;"
                + "instr x:a,b,c,d;", "1 6 8", "1 6 8", 3);
        due("weak on one that waits", "op z unit 3 r0=7;op a unit 0 r1=r0;op b unit 1 r0=r2;instr x:z,a,b;",
                "1 6", "1 6", 2);
        due("weak on two, the first of which waits", "op z unit 2 r5=1;op a unit 0 r1=r0+r5;op b unit 1 r2=r0;"
                + "op c unit 3 r0=1;instr x:z,a,b,c;", "5 10", "5 10", 2);
        due("weak on one that waits for its unit", "op z unit 0 r5=7;op a unit 0 r1=r0;op b unit 1 r0=r2;instr x:z,a,b;",
                "1 6", "6 1", 1);
    }

    private static void segments() {
        String text = "op a unit 0 r0=1;op b unit 1 r1=1;op c unit 2 r2=r1;";
        due("marks part", text + "instr x:a!b,a,c!c;", "1 3 4 4", "1 3 4 4", 4);
        MicrocodeOptimizer x = Check.loaded(text + "instr x:a!b,a,c!c;instr y:a;", 1);
        CHECK.due("latency by list", x.latency(0), 2);
        CHECK.due("latency of one", x.latency(1), 1);
        x.setMode(0);
        CHECK.due("latency one by one", x.latency(0), 3);
        x.setMark(0, 0, false);
        CHECK.due("latency then", x.latency(0), 4);
        CHECK.due("words of the other one", Check.words(x, 1), "1");
        CHECK.due("chain then", x.chain(0), 3);
        MicrocodeOptimizer y = Check.loaded("op a unit 0 r0=r0+1;instr x:a,a,a,a,a,a,a,a,a,a!a,a,a,a,a,a,a,a,a,a!a,a,a,a;", 2);
        CHECK.due("the longest", y.wordCount(0), 24);
        CHECK.due("its chain", y.chain(0), 24);
        CHECK.due("its latency", y.latency(0), 10);
    }

    /** The fewest words can be more than the longest chain has and more than a unit has operations. */
    private static void moreThanChainAndUnits() {
        due("one more", "op p unit 0 r0=1;op q unit 0 r1=1;op s unit 1 r2=r0+r1;instr x:p,q,s;", "1 2 4", "2 1 4", 2);
        // Only behind z it shows that p and q, which s waits for, need a word each.
        due("one more behind another word", "op z unit 2 r0=1;op p unit 0 r1=r0;op q unit 0 r2=r0;op s unit 1 r3=r1+r2;"
                + "instr x:z,p,q,s;", "1 2 4 8", "1 4 2 8", 3);
        // Four words are too few behind b, a as well as behind a, b.
        due("two more", "op a unit 0 r0=1;op b unit 0 r1=1;op p unit 1 r2=r0+r1;op q unit 1 r3=r0+r1;"
                + "op s unit 2 r4=r2+r3;instr x:a,b,p,q,s;", "1 2 4 8 16", "2 1 8 4 16", 3);
    }

    /** Nothing of a segment is left when the next one is packed. */
    private static void oneSegmentAfterAnother() {
        // q depends weakly on p; u, at the same position of the second segment, does not depend on t, which waits.
        due("weak in the first segment only", "op s unit 0 r0=1;op t unit 0 r1=1;op u unit 1 r2=1;op p unit 2 r3=r4;"
                + "op q unit 3 r4=1;instr x:s,p,q!s,t,u;", "25 5 2", "25 6 1", 2);
        // Two words are too few for the first segment, but not for the second.
        due("too few in the first segment only", "op p unit 0 r0=1;op q unit 0 r1=1;op r unit 1 r2=r0+r1;"
                + "instr x:p,q,r!p,q;", "1 2 4 1 2", "2 1 4 2 1", 3);
    }

    private static void errors() {
        MicrocodeOptimizer x = Check.loaded("op a unit 0 r0=1;op b unit 1 r1=1;instr x:a,b;", 1);
        CHECK.due("wordCount", x.wordCount(0), 1);
        CHECK.dueThrow("word(0, 1)", IndexOutOfBoundsException.class, () -> x.word(0, 1));
        CHECK.dueThrow("word(0, -1)", IndexOutOfBoundsException.class, () -> x.word(0, -1));
        for (int bad : new int[] {1, -1, 8, Integer.MAX_VALUE, Integer.MIN_VALUE}) {
            CHECK.dueThrow("word of " + bad, IndexOutOfBoundsException.class, () -> x.word(bad, 0));
            CHECK.dueThrow("wordCount of " + bad, IndexOutOfBoundsException.class, () -> x.wordCount(bad));
            CHECK.dueThrow("chain of " + bad, IndexOutOfBoundsException.class, () -> x.chain(bad));
            CHECK.dueThrow("latency of " + bad, IndexOutOfBoundsException.class, () -> x.latency(bad));
        }
    }
}
