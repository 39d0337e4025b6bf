import java.lang.reflect.InvocationTargetException;
import java.lang.reflect.Method;
import java.nio.charset.StandardCharsets;
import java.util.ArrayList;
import java.util.Arrays;
import java.util.List;
import java.util.Random;

/** Runs of random calls, the same ones every time, each answer compared with the model's. */
public final class RandomRunsTest {
    private final Random random;
    private final MicrocodeOptimizer program = new MicrocodeOptimizer();
    private final Model model = new Model();
    private final List<String> calls = new ArrayList<>();
    private String wrong = null;

    private RandomRunsTest(long seed) {
        random = new Random(seed);
    }

    public static void main(String[] args) {
        int runs = args.length > 0 ? Integer.parseInt(args[0]) : 1000;
        int from = args.length > 1 ? Integer.parseInt(args[1]) : 0;
        int wrongRuns = 0;
        for (int seed = from; seed < from + runs && wrongRuns < 5; seed++) {
            RandomRunsTest run = new RandomRunsTest(seed);
            run.go();
            if (run.wrong != null) {
                wrongRuns++;
                System.out.println("run " + seed + ": " + run.wrong);
                int first = Math.max(0, run.calls.size() - 40);
                run.calls.subList(first, run.calls.size()).forEach(c -> System.out.println("    " + c));
            }
        }
        System.out.println(runs + " runs, " + wrongRuns + " of them wrong");
        if (wrongRuns > 0) {
            System.exit(1);
        }
    }

    private static final Method[] METHODS = sorted(MicrocodeOptimizer.class.getDeclaredMethods());

    private static Method[] sorted(Method[] all) {
        return Arrays.stream(all).filter(m -> java.lang.reflect.Modifier.isPublic(m.getModifiers()))
                .sorted((a, b) -> a.getName().compareTo(b.getName())).toArray(Method[]::new);
    }

    /** An object is for 512 calls, and a text takes up to 63 of them. */
    private void go() {
        while (calls.size() < 449 && wrong == null) {
            int what = random.nextInt(100);
            if (what < 4 || calls.isEmpty()) {
                putText(sourceText());
                call("load");
            } else if (what < 7) {
                String name = name();
                putText(random.nextInt(8) == 0 ? name + "\0" : random.nextInt(8) == 0 ? "\0" + name : name);
                call("find");
            } else if (what < 20) {
                Object[][] changes = {{"setMode", random.nextInt(4)}, {"undo"},
                        {"setMark", number("instruction"), number("index"), random.nextBoolean()}};
                Object[] change = changes[random.nextInt(3)];
                call((String) change[0], Arrays.copyOfRange(change, 1, change.length));
            } else {
                Method m = METHODS[random.nextInt(METHODS.length)];
                if (!m.getName().equals("load") && !m.getName().equals("find")) {
                    call(m.getName(), arguments(m));
                }
            }
        }
    }

    private Object[] arguments(Method m) {
        Object[] arguments = new Object[m.getParameterCount()];
        String[] names = switch (m.getName()) {
            case "operation" -> new String[] {"operation", "what"};
            case "fieldOf", "codeOf" -> new String[] {"operation"};
            case "operationAt", "hasMark", "word" -> new String[] {"instruction", "index"};
            case "dependence" -> new String[] {"instruction", "index", "index"};
            case "setMark" -> new String[] {"instruction", "index", "flag"};
            case "store" -> new String[] {"address", "what"};
            case "control" -> new String[] {"address"};
            case "register" -> new String[] {"register"};
            case "setRegister" -> new String[] {"register", "value"};
            case "start" -> new String[] {"instruction", "words"};
            case "setMode" -> new String[] {"what"};
            case "outputByte", "truncate" -> new String[] {"byte"};
            case "append" -> new String[] {"value", "value", "value", "value", "value"};
            default -> new String[] {"instruction"};
        };
        for (int i = 0; i < arguments.length; i++) {
            arguments[i] = names[i].equals("flag") ? (Object) random.nextBoolean() : (Object) number(names[i]);
        }
        return arguments;
    }

    private int number(String what) {
        if (random.nextInt(40) == 0) {
            int[] odd = {Integer.MIN_VALUE, Integer.MAX_VALUE, -1, -2, 1 << 24, 8, 12, 24, 100};
            return odd[random.nextInt(odd.length)];
        }
        int within = switch (what) {
            case "instruction" -> model.instructionCount();
            case "operation" -> model.operationCount();
            case "address" -> model.storeSize();
            case "index" -> random.nextBoolean() ? 8 : 24;
            case "what" -> 5;
            case "words" -> random.nextInt(26);
            case "register" -> 8;
            case "byte" -> random.nextBoolean() ? 30 : 1250;
            default -> 0;
        };
        return what.equals("value") ? random.nextInt() >> random.nextInt(32)
                : random.nextInt(within + 1) - (random.nextInt(30) == 0 ? 1 : 0);
    }

    private void putText(String text) {
        call("truncate", 0);
        byte[] bytes = text.getBytes(StandardCharsets.ISO_8859_1);
        for (int i = 0; i < bytes.length && wrong == null; i += 20) {
            call("append", Check.four(bytes, i), Check.four(bytes, i + 4), Check.four(bytes, i + 8),
                    Check.four(bytes, i + 12), Check.four(bytes, i + 16));
        }
        call("truncate", bytes.length);
        calls.add("text " + text.replace("\n", "\\n"));
    }

    private void call(String name, Object... arguments) {
        if (wrong != null) {
            return;
        }
        String got = answer(program, name, arguments);
        String want = answer(model, name, arguments);
        String call = name + Arrays.toString(arguments) + " answered " + got;
        calls.add(call);
        if (!got.equals(want)) {
            wrong = call + ", due is " + want;
        }
    }

    private static String answer(Object on, String name, Object... arguments) {
        try {
            for (Method m : on.getClass().getMethods()) {
                if (m.getName().equals(name) && m.getParameterCount() == arguments.length
                        && m.getDeclaringClass() == on.getClass()) {
                    m.setAccessible(true);
                    return String.valueOf(m.invoke(on, arguments));
                }
            }
            throw new AssertionError("no method " + name);
        } catch (InvocationTargetException e) {
            return "throws." + e.getCause().getClass().getName();
        } catch (IllegalAccessException e) {
            throw new AssertionError(e);
        }
    }

    private static final String[] NAMES = {"a", "b", "c", "d", "e", "f", "g", "h", "i", "j", "k", "l", "m",
        "add", "r8", "r00", "opa", "abcdefgh", "x1", "r", "units"};

    private String name() {
        return NAMES[random.nextInt(NAMES.length)];
    }

    private String sourceText() {
        int operations = random.nextInt(13) + (random.nextInt(40) == 0 ? 1 : 0);
        int instructions = random.nextInt(9) + (random.nextInt(40) == 0 ? 1 : 0);
        int units = 1 + random.nextInt(6);
        int registers = 1 + random.nextInt(8);
        int longest = 1 + random.nextInt(24);
        int marks = random.nextInt(4) * 4;
        StringBuilder text = new StringBuilder();
        List<String> names = new ArrayList<>();
        for (int i = 0; i < operations; i++) {
            names.add(i < 13 ? NAMES[i] : name());
            text.append("op ").append(names.get(i)).append(" unit ").append(random.nextInt(units))
                    .append(random.nextInt(8) == 0 ? "" : " ").append('r').append(random.nextInt(registers))
                    .append('=').append(operand(registers));
            if (random.nextInt(3) > 0) {
                text.append("+-*&|^".charAt(random.nextInt(6))).append(operand(registers));
            }
            text.append(random.nextInt(12) == 0 ? " ;\n" : ";");
        }
        for (int i = 0; i < instructions && operations > 0; i++) {
            text.append("instr z").append(i);
            int length = 1 + random.nextInt(longest);
            int inSegment = 0;
            for (int k = 0; k < length; k++) {
                boolean isMark = k > 0 && (inSegment >= 10 || random.nextInt(20) < marks);
                inSegment = isMark ? 1 : inSegment + 1;
                text.append(k == 0 ? ":" : isMark ? "!" : ",").append(names.get(random.nextInt(names.size())));
            }
            text.append(";");
        }
        if (instructions > 1 && random.nextBoolean()) {
            shareEnds(text);
        }
        if (random.nextInt(3) == 0) {
            spoil(text);
        }
        return text.length() > 1200 ? text.substring(0, 1200) : text.toString();
    }

    /** Lets an instruction end as another one does. */
    private void shareEnds(StringBuilder text) {
        int one = text.indexOf("instr z0:");
        int other = text.indexOf("instr z1:");
        if (one >= 0 && other >= 0 && text.indexOf("z9") < 0 && text.indexOf("z8") < 0) {
            String first = text.substring(one + 9, text.indexOf(";", one));
            String tail = first.substring(2 * random.nextInt(1 + first.length() / 2)
                    % Math.max(1, first.length()));
            if (tail.matches("[a-z].*")) {
                text.append("instr z9:").append(tail).append(";");
            }
        }
    }

    private void spoil(StringBuilder text) {
        String[] wrongs = {"", ";", "r9", "10000", "6", "op", "unit", "instr", "abcdefghi", "Z", "\0", "\t", "\u00e9",
            "a", "=", "!", ",", "+", " ", "0", "zz", "r1", "7op"};
        int at = random.nextInt(text.length() + 1);
        int to = Math.min(text.length(), at + random.nextInt(4));
        text.replace(at, to, wrongs[random.nextInt(wrongs.length)]);
        if (random.nextInt(4) == 0) {
            text.setLength(random.nextInt(text.length() + 1));
        }
    }

    private String operand(int registers) {
        return random.nextInt(3) > 0 ? "r" + random.nextInt(registers)
                : random.nextInt(4) == 0 ? "00" + random.nextInt(100) : "" + random.nextInt(10000);
    }
}
