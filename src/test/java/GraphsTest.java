import java.nio.charset.StandardCharsets;
import java.util.ArrayList;
import java.util.Collections;
import java.util.List;
import java.util.Random;

/**
 * Promises 27 to 31 once more: operations that are together in ever other pairs, the same ones every time; the fields
 * are compared with those of the model, which goes through all divisions.
 */
public final class GraphsTest {
    private static final Check CHECK = new Check();
    private static final int PAIRS_OF_INSTRUCTION = 12;
    private static final int MOST_PAIRS = 7 * PAIRS_OF_INSTRUCTION;

    public static void main(String[] args) {
        int graphs = args.length > 0 ? Integer.parseInt(args[0]) : 300;
        int from = args.length > 1 ? Integer.parseInt(args[1]) : 0;
        for (int seed = from; seed < from + graphs; seed++) {
            compare(seed, sourceText(new Random(seed)));
        }
        CHECK.end();
    }

    private static void compare(int seed, String text) {
        MicrocodeOptimizer x = Check.loaded(text, 1);
        Model model = new Model();
        byte[] bytes = text.getBytes(StandardCharsets.ISO_8859_1);
        for (int i = 0; i < bytes.length; i += 20) {
            model.append(Check.four(bytes, i), Check.four(bytes, i + 4), Check.four(bytes, i + 8),
                    Check.four(bytes, i + 12), Check.four(bytes, i + 16));
        }
        model.truncate(bytes.length);
        model.load();
        model.setMode(1);
        String graph = "graph " + seed + ", ";
        CHECK.due(graph + "words of the store", x.storeSize(), model.storeSize());
        CHECK.due(graph + "bits", x.fieldBits(), model.fieldBits());
        CHECK.due(graph + "fields", x.fieldCount(), model.fieldCount());
        for (int m = 0; m < x.operationCount(); m++) {
            CHECK.due(graph + "field of " + m, x.fieldOf(m), model.fieldOf(m));
            CHECK.due(graph + "code of " + m, x.codeOf(m), model.codeOf(m));
        }
        for (int a = 0; a < x.storeSize(); a += 7) {
            CHECK.due(graph + "control of " + a, x.control(a), model.control(a));
        }
    }

    /** Words of two operations, and one of one operation for most of them, so that the pairs alone say what is together. */
    private static String sourceText(Random random) {
        int count = 7 + random.nextInt(6);
        int units = 2 + random.nextInt(5);
        int registers = 2 + random.nextInt(7);
        int density = random.nextInt(100);
        int[] unitOf = new int[count];
        int[] targetOf = new int[count];
        StringBuilder text = new StringBuilder();
        List<String> pairs = new ArrayList<>();
        for (int m = 0; m < count; m++) {
            unitOf[m] = random.nextInt(3) == 0 ? random.nextInt(units) : m % units;
            targetOf[m] = random.nextInt(3) == 0 ? random.nextInt(registers) : m % registers;
            text.append("op ").append(Sources.letter(m)).append(" unit ").append(unitOf[m])
                    .append(" r").append(targetOf[m]).append("=1;");
            for (int n = 0; n < m; n++) {
                if (unitOf[n] != unitOf[m] && targetOf[n] != targetOf[m] && random.nextInt(100) < density) {
                    pairs.add(Sources.letter(n) + "," + Sources.letter(m));
                }
            }
        }
        Collections.shuffle(pairs, random);
        for (int i = 0; i < Math.min(pairs.size(), MOST_PAIRS); i += PAIRS_OF_INSTRUCTION) {
            int behind = Math.min(pairs.size(), i + PAIRS_OF_INSTRUCTION);
            text.append("instr p").append(i).append(':').append(String.join("!", pairs.subList(i, behind))).append(';');
        }
        text.append("instr s:a");
        for (int m = 1; m < count; m++) {
            text.append(random.nextInt(8) == 0 ? "" : "!" + Sources.letter(m));
        }
        return text.append(';').toString();
    }
}
