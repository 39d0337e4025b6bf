/** "Texts" and "Errors of a text": the edges of tokens, of the grammar and of the errors. */
public final class GrammarTest {
    private static final Check CHECK = new Check();
    private static final String OP_A = Sources.OP_A;
    private static final String SIGNS = "+-*&|^";
    private static final int GOOD = -1;

    public static void main(String[] args) {
        textsOf1200Bytes();
        namesOfOneToEight();
        namesAreNoRegisters();
        namesAreNotQuoted();
        numbersOfOneToFour();
        runsAreMaximal();
        everyByteBeforeTheFirst();
        everyByteBetween();
        everyByteBehindTheLast();
        everyByteInAName();
        everyByteAsAName();
        everyByteInASequence();
        blanksAnywhere();
        everyPrefix();
        everyTokenMissing();
        everyTokenTwice();
        everyTokenInvalid();
        emptyTexts();
        operationsBeforeInstructions();
        leastOffset();
        leastKind();
        namesInUse();
        namesOfNoOperation();
        tooMany();
        greatestError();
        CHECK.end();
    }

    private static boolean isBlank(int c) {
        return c == 32 || c == 10;
    }

    private static boolean isLetter(int c) {
        return c >= 97 && c <= 122;
    }

    private static boolean isDigit(int c) {
        return c >= 48 && c <= 57;
    }

    // ---- "A text of at most 1200 bytes describes the source"

    private static void textsOf1200Bytes() {
        for (int length : new int[] {1199, 1200}) {
            String blanks = " ".repeat(length - OP_A.length());
            CHECK.dueLoad(OP_A + blanks, 0);
            CHECK.dueLoad(blanks + OP_A, 0);
            CHECK.dueError(blanks + OP_A.substring(0, 16) + "?", length - 1, 1);
            CHECK.dueError(blanks + " " + OP_A.substring(0, 16), length, 1);
            CHECK.dueError(OP_A + blanks.substring(1) + "?", length - 1, 1);
        }
        MicrocodeOptimizer x = new MicrocodeOptimizer();
        Check.put(x, OP_A + " ".repeat(1200 - OP_A.length()));
        CHECK.due("the 1201st byte", x.append(0, 0, 0, 0, 0), -1);
        CHECK.due("it does not spoil the text", x.load(), 0);
        CHECK.due("which is read", x.operationCount(), 1);
    }

    // ---- "A NAME is a word of 1 to 8 characters that is not a REG and does not stand in quotation marks here."

    private static void namesOfOneToEight() {
        for (String name : new String[] {"a", "z", "a0", "z9", "abcdefg", "abcdefgh", "a1234567", "zzzzzzzz", "r1234567"}) {
            CHECK.dueLoad("op " + name + " unit 0 r0=1;instr x:" + name + ";", 1);
            CHECK.dueLoad("op q unit 0 r0=1;instr " + name + ":q;", 1);
            MicrocodeOptimizer x = Check.loaded("op " + name + " unit 0 r0=1;instr x:" + name + ";", 0);
            CHECK.due("find " + name, Check.find(x, name), 0);
            CHECK.due("write " + name, Check.written(x), "op " + name + " unit 0 r0=1;instr x:" + name + ";");
        }
        for (String name : new String[] {"abcdefghi", "a12345678", "abcdefghijklmnopqrstuvwxyz", "r12345678"}) {
            CHECK.dueError("op " + name + " unit 0 r0=1;", 3, 1);
            CHECK.dueError(OP_A + "instr " + name + ":a;", 23, 1);
            CHECK.dueError(OP_A + "instr x:" + name + ";", 25, 1);
        }
        CHECK.dueError("op  unit 0 r0=1;", 4, 1);
        CHECK.dueError(OP_A + "instr :a;", 23, 1);
        // The first eight characters are no name of their own.
        CHECK.dueError("op abcdefgh unit 0 r0=1;instr x:abcdefghi;", 32, 1);
        CHECK.dueError("op abcdefgh unit 0 r0=1;instr x:abcdefg;", 32, 4);
    }

    private static void namesAreNoRegisters() {
        for (int r = 0; r <= 7; r++) {
            CHECK.dueError("op r" + r + " unit 0 r0=1;", 3, 1);
            CHECK.dueError(OP_A + "instr r" + r + ":a;", 23, 1);
            CHECK.dueError(OP_A + "instr x:r" + r + ";", 25, 1);
        }
        for (String name : new String[] {"r", "r8", "r9", "r00", "r07", "r10", "r77", "rr", "r0a", "q7", "s0"}) {
            CHECK.dueLoad("op " + name + " unit 0 r0=1;instr x:" + name + ";", 1);
        }
    }

    private static void namesAreNotQuoted() {
        for (String word : new String[] {"op", "unit", "instr"}) {
            CHECK.dueError("op " + word + " unit 0 r0=1;", 3, 1);
            CHECK.dueError(OP_A + "instr " + word + ":a;", 23, 1);
            CHECK.dueError(OP_A + "instr x:" + word + ";", 25, 1);
            CHECK.dueLoad("op " + word + "s unit 0 r0=1;instr " + word + "1:" + word + "s;", 1);
            String cut = word.substring(0, word.length() - 1);
            CHECK.dueLoad("op " + cut + " unit 0 r0=1;instr x:" + cut + ";", 1);
        }
    }

    // ---- "A NUMBER is a maximal run of digits and has 1 to 4 digits."

    private static void numbersOfOneToFour() {
        String[] numbers = {"0", "7", "9", "00", "10", "99", "007", "100", "999", "0000", "0001", "1000", "9999"};
        for (String n : numbers) {
            MicrocodeOptimizer x = Check.loaded("op a unit 0 r0=" + n + "+" + n + ";", 0);
            int value = Integer.parseInt(n);
            CHECK.due("write " + n, Check.written(x), "op a unit 0 r0=" + value + "+" + value + ";");
        }
        for (String n : new String[] {"00000", "00001", "10000", "99999", "4294967296", "1".repeat(100)}) {
            CHECK.dueError("op a unit 0 r0=" + n + ";", 15, 1);
            CHECK.dueError("op a unit 0 r0=r1-" + n + ";", 18, 1);
            CHECK.dueError("op a unit " + n + " r0=1;", 10, 1);
        }
    }

    /** A run goes as far as it can: what is cut off it would be a good token. */
    private static void runsAreMaximal() {
        CHECK.dueError("op a unit 0 r01=1;", 12, 1);
        CHECK.dueError("op a unit 0 r0=r11;", 15, 1);
        CHECK.dueError("op a unit0 r0=1;", 5, 1);
        CHECK.dueError("opa unit 0 r0=1;", 0, 1);
        CHECK.dueError(OP_A + "instrx:a;", 17, 1);
        CHECK.dueError("op a unit 0 r0=1 2;", 17, 1);
        CHECK.dueError("op a unit 0 r0=1r2;", 16, 1);
        // A run of digits ends where a letter stands, and a word may begin there.
        CHECK.dueLoad("op a unit 5r7=1;", 0);
        CHECK.dueError("op a unit 5r8=1;", 11, 1);
        CHECK.dueError("op 1a unit 0 r0=1;", 3, 1);
        CHECK.dueError("op 0 unit 0 r0=1;", 3, 1);
    }

    // ---- "Spaces (32) and newlines (10) may stand before the first token, between any two tokens and behind the last one."
    // ---- "1: .. a byte that begins no token"

    private static void everyByteBeforeTheFirst() {
        for (int c = 0; c < 256; c++) {
            due("byte " + c + " before the first token", (char) c + " " + OP_A, isBlank(c) ? GOOD : 0);
        }
    }

    private static void everyByteBetween() {
        for (int c = 0; c < 256; c++) {
            boolean isAllowed = c == ';' || SIGNS.indexOf(c) >= 0;
            due("byte " + c + " behind an operand", "op a unit 0 r0=1 " + (char) c + " ;",
                    isBlank(c) ? GOOD : isAllowed ? 19 : 17);
        }
    }

    private static void everyByteBehindTheLast() {
        for (int c = 0; c < 256; c++) {
            due("byte " + c + " behind the last token", OP_A + (char) c, isBlank(c) ? GOOD : 17);
        }
    }

    private static void everyByteInAName() {
        for (int c = 0; c < 256; c++) {
            due("byte " + c + " in a name", "op a" + (char) c + "b unit 0 r0=1;",
                    isLetter(c) || isDigit(c) ? GOOD : isBlank(c) ? 5 : 4);
        }
    }

    private static void everyByteAsAName() {
        for (int c = 0; c < 256; c++) {
            due("byte " + c + " as a name", "op " + (char) c + " unit 0 r0=1;",
                    isLetter(c) ? GOOD : isBlank(c) ? 5 : 3);
        }
    }

    private static void everyByteInASequence() {
        for (int c = 0; c < 256; c++) {
            String text = OP_A + "instr x:a" + (char) c + "a;";
            int answer = c == ',' || c == '!' ? 1
                    : isLetter(c) || isDigit(c) ? -(8 * 25 + 4)
                    : isBlank(c) || c == ';' ? -(8 * 27 + 1) : -(8 * 26 + 1);
            CHECK.due("byte " + c + " in a sequence", Check.load(new MicrocodeOptimizer(), text), answer);
        }
    }

    /** A text of operations alone, with an error of kind 1 at this offset or with none. */
    private static void due(String what, String text, int offset) {
        int answer = offset == GOOD ? 0 : -(8 * offset + 1);
        CHECK.due(what, Check.load(new MicrocodeOptimizer(), text), answer);
    }

    private static final String[] TOKENS = {"op", "a", "unit", "5", "r0", "=", "r1", "+", "25", ";",
        "instr", "x", ":", "a", "!", "a", ",", "a", ";"};

    private static void blanksAnywhere() {
        for (String blanks : new String[] {" ", "\n", "  ", "\n\n", " \n", "\n ", " \n \n\n  "}) {
            CHECK.dueLoad(blanks + String.join(blanks, TOKENS) + blanks, 1);
        }
        for (String none : new String[] {"\t", "\r", "\r\n", "\0", "\u000b", "\f", "\u00a0", "\u001f", "!"}) {
            CHECK.dueError(String.join(none, TOKENS), 2, 1);
        }
        CHECK.dueLoad("op a unit 5r0=r1+25;instr x:a!a,a;", 1);
    }

    // ---- "the length of the text if the text ends too early"

    private static void everyPrefix() {
        String text = "op a unit 5 r0=r1+25;instr x:a!a;";
        int[] due = {GOOD, 0, 2, 3, 4, 5, 5, 5, 5, 9, 10, 11, 12, 12, 14, 15, 15, 17, 18, 19, 20,
            GOOD, 21, 21, 21, 21, 26, 27, 28, 29, 30, 31, 32};
        for (int n = 0; n < due.length; n++) {
            String prefix = text.substring(0, n);
            due("load of " + prefix, prefix, due[n]);
            due("load of " + prefix + " and blanks", prefix + " \n ", due[n] == n ? n + 3 : due[n]);
        }
        CHECK.dueLoad(text, 1);
    }

    /** Without a token the next one is not allowed there; only the mark or comma and the sign need more thought. */
    private static void everyTokenMissing() {
        for (int t = 0; t < TOKENS.length; t++) {
            StringBuilder text = new StringBuilder();
            int offset = 0;
            for (int n = 0; n < TOKENS.length; n++) {
                if (n == t) {
                    offset = text.length();
                } else {
                    text.append(TOKENS[n]).append(' ');
                }
            }
            offset = t == TOKENS.length - 1 ? text.length() : offset;
            CHECK.dueError(text.toString(), offset, 1);
        }
    }

    private static void everyTokenTwice() {
        for (int t = 0; t < TOKENS.length; t++) {
            StringBuilder text = new StringBuilder();
            int offset = 0;
            for (int n = 0; n < TOKENS.length; n++) {
                text.append(TOKENS[n]).append(' ');
                if (n == t) {
                    offset = text.length();
                    text.append(TOKENS[n]).append(' ');
                }
            }
            CHECK.dueError(text.toString(), offset, 1);
        }
    }

    /** "1: an invalid token (a longer run of digits, a byte that begins no token)", in the place of each token. */
    private static void everyTokenInvalid() {
        for (String invalid : new String[] {"abcdefghi", "12345", "?", "A", "\0", "\u00e9", "/", "_"}) {
            for (int t = 0; t <= TOKENS.length; t++) {
                StringBuilder text = new StringBuilder();
                int offset = 0;
                for (int n = 0; n < TOKENS.length; n++) {
                    offset = n == t ? text.length() : offset;
                    text.append(n == t ? invalid : TOKENS[n]).append(' ');
                }
                offset = t == TOKENS.length ? text.length() : offset;
                CHECK.dueError(text + (t == TOKENS.length ? invalid : ""), offset, 1);
            }
            CHECK.dueError(invalid, 0, 1);
        }
    }

    private static void emptyTexts() {
        for (String text : new String[] {"", " ", "\n", " ".repeat(1200)}) {
            MicrocodeOptimizer x = Check.loaded(OP_A + Sources.singles(2), 0);
            CHECK.due("load of nothing", Check.load(x, text), 0);
            CHECK.due("it replaces the operations", x.operationCount(), 0);
            CHECK.due("and the instructions", x.instructionCount(), 0);
        }
        CHECK.dueError(";", 0, 1);
    }

    private static void operationsBeforeInstructions() {
        String text = OP_A + "instr x:a;";
        CHECK.dueError(text + "op b unit 0 r0=1;", text.length(), 1);
        CHECK.dueError("instr x:a;" + OP_A, 8, 4);
        CHECK.dueLoad(OP_A + "op b unit 0 r0=1;" + "instr x:b;instr y:a;", 2);
    }

    // ---- "The error with the least byte offset of a token is reported"

    private static void leastOffset() {
        CHECK.dueError("op a unit 6 r8=10000", 10, 2);
        CHECK.dueError("op a unit 6 r0=1;" + OP_A, 10, 2);
        CHECK.dueError(OP_A + "op a unit 6 r9=?", 20, 3);
        CHECK.dueError(OP_A + "instr a:b,?", 23, 3);
        CHECK.dueError(OP_A + "instr x:b,?", 25, 4);
        CHECK.dueError(OP_A + "instr x:b", 25, 4);
        CHECK.dueError(OP_A + "instr x:a;instr x:b;", 33, 3);
        CHECK.dueError(OP_A + "instr x:a,b;instr x:a;", 27, 4);
        String twelve = Sources.counters(12);
        CHECK.dueError(twelve + "op a unit 6", twelve.length(), 5);
        CHECK.dueError(twelve + "op ?", twelve.length(), 5);
        String eight = OP_A + Sources.singles(8);
        CHECK.dueError(eight + "instr a:b", eight.length(), 5);
        String ten = OP_A + "instr x:a,a,a,a,a,a,a,a,a,a,a";
        CHECK.dueError(ten + "?", ten.length() - 1, 5);
        CHECK.dueError(ten + ",b;", ten.length() - 1, 5);
        CHECK.dueError("op a unit 0 r0=1?;instr a:b;", 16, 1);
    }

    // ---- "if several kinds apply to one token, the least kind"

    private static void leastKind() {
        CHECK.dueError("op a unit 99999 r0=1;", 10, 1);
        CHECK.dueError("op abcdefghi unit 0 r0=1;", 3, 1);
        String ten = OP_A + "instr x:a,a,a,a,a,a,a,a,a,a,";
        CHECK.dueError(ten + "a;", ten.length(), 5);
        CHECK.dueError(ten + "x;", ten.length(), 4);
        CHECK.dueError(ten + "op;", ten.length(), 1);
        CHECK.dueError(ten + "r0;", ten.length(), 1);
        CHECK.dueError(ten + "abcdefghi;", ten.length(), 1);
        CHECK.dueError(ten + "1;", ten.length(), 1);
        CHECK.dueError(ten, ten.length(), 1);
        String all = OP_A + "instr x:a" + "!a".repeat(23) + "!";
        CHECK.dueError(all + "a;", all.length(), 5);
        CHECK.dueError(all + "x;", all.length(), 4);
        CHECK.dueError(all + "unit;", all.length(), 1);
        CHECK.dueError(all + ";", all.length(), 1);
        CHECK.dueError(all, all.length(), 1);
        String twelve = Sources.counters(12) + "instr x:a;";
        CHECK.dueError(twelve + "op m unit 0 r0=1;", twelve.length(), 1);
        String eight = OP_A + Sources.singles(7) + "instr x:a";
        CHECK.dueError(eight + " instr", eight.length() + 1, 1);
    }

    // ---- "3: the NAME of an operation or instruction that another operation or instruction has"

    private static void namesInUse() {
        CHECK.dueError(OP_A + "op a unit 1 r1=2;", 20, 3);
        CHECK.dueLoad(OP_A + "op aa unit 1 r1=2;", 0);
        CHECK.dueError(OP_A + "instr a:a;", 23, 3);
        CHECK.dueError(OP_A + "instr x:a;instr x:a;", 33, 3);
        CHECK.dueError(OP_A + "instr x:a;instr a:a;", 33, 3);
        String eleven = Sources.counters(11);
        CHECK.dueError(eleven + "op a unit 0 r0=1;", eleven.length() + 3, 3);
        CHECK.dueError(eleven + "op k unit 0 r0=1;", eleven.length() + 3, 3);
        CHECK.dueLoad(eleven + "op l unit 0 r0=1;", 0);
        String seven = OP_A + Sources.singles(7);
        CHECK.dueError(seven + "instr i0:a;", seven.length() + 6, 3);
        CHECK.dueError(seven + "instr i6:a;", seven.length() + 6, 3);
        CHECK.dueLoad(seven + "instr i7:a;", 8);
        CHECK.dueError("op abcdefgh unit 0 r0=1;op abcdefgh unit 0 r0=1;", 27, 3);
        CHECK.dueLoad("op abcdefgh unit 0 r0=1;op abcdefgi unit 0 r0=1;op bbcdefgh unit 0 r0=1;", 0);
        // The names of the source that is replaced, or of a text with an error, are free.
        MicrocodeOptimizer x = Check.loaded(OP_A + "instr x:a;", 0);
        CHECK.due("a text with an error", Check.load(x, "op b unit 0 r0=1;instr y:b"), -(8 * 26 + 1));
        CHECK.due("names of both", Check.load(x, "op x unit 0 r0=1;op b unit 0 r0=1;instr a:x;instr y:b;"), 2);
    }

    // ---- "4: in the sequence of an instruction, a NAME that is not that of an operation"

    private static void namesOfNoOperation() {
        CHECK.dueError(OP_A + "instr x:b;", 25, 4);
        CHECK.dueError(OP_A + "instr x:x;", 25, 4);
        CHECK.dueError(OP_A + "instr x:a,x;", 27, 4);
        CHECK.dueError(OP_A + "instr x:a!aa;", 27, 4);
        CHECK.dueError(OP_A + "instr x:a;instr y:x;", 35, 4);
        CHECK.dueError("instr x:a;", 8, 4);
        // An operation of the former source is none of the new one.
        MicrocodeOptimizer x = Check.loaded(OP_A + "op b unit 0 r0=1;", 0);
        CHECK.due("an operation of the former source", Check.load(x, OP_A + "instr x:b;"), -(8 * 25 + 4));
        CHECK.due("the source stays", x.operationCount(), 2);
    }

    // ---- "5: the word "op" of a 13th operation, "instr" of a 9th instruction; the NAME of a 25th operation ..."

    private static void tooMany() {
        String twelve = Sources.counters(12);
        String eight = twelve + Sources.singles(8);
        CHECK.dueLoad(twelve, 0);
        CHECK.dueLoad(eight, 8);
        CHECK.dueError(twelve + "op m unit 0 r0=1;" + Sources.singles(9), twelve.length(), 5);
        CHECK.dueError(eight + "instr i8:a;", eight.length(), 5);
        String sequence = OP_A + "instr x:a,a,a,a,a,a,a,a,a,a!a,a,a,a,a,a,a,a,a,a!a,a,a";
        CHECK.dueLoad(sequence + ",a;", 1);
        CHECK.dueError(sequence + ",a,a;", sequence.length() + 3, 5);
        CHECK.dueError(sequence + "!a!a;", sequence.length() + 3, 5);
        // The count begins anew with each instruction and each segment.
        CHECK.dueLoad(sequence + ",a;instr y" + sequence.substring(OP_A.length() + 7) + ",a;", 2);
    }

    /** The answer to an error at the end of the longest text. */
    private static void greatestError() {
        due("the end of 1200 bytes", "op" + " ".repeat(1198), 1200);
        CHECK.dueError(OP_A + " ".repeat(1200 - OP_A.length() - 9) + "instr x:b", 1199, 4);
        CHECK.dueError(OP_A + Sources.singles(8) + " ".repeat(1200 - OP_A.length() - 8 * 11 - 5) + "instr", 1195, 5);
        CHECK.dueError(OP_A + " ".repeat(1200 - OP_A.length() - 7) + "instr a", 1199, 3);
        CHECK.dueError(" ".repeat(1200 - 11) + "op a unit 6", 1199, 2);
    }
}
