import java.nio.charset.StandardCharsets;

/** The example of README.md. */
public final class Example {
    public static void main(String[] args) {
        MicrocodeOptimizer x = new MicrocodeOptimizer();
        put(x, "op a unit 0 r0=r1+r2; op b unit 1 r3=7; op c unit 0 r4=r0*r3; instr i:a,b!c; instr j:b,a,c;");
        System.out.println("instructions: " + x.load());
        System.out.println("words one by one: " + x.storeSize());
        System.out.println("words if they are the fewest: " + x.setMode(2));
        System.out.println("first word of i: " + x.word(0, 0) + ", its control: " + x.control(x.entry(0)));
        System.out.println("fields: " + x.fieldCount() + ", bits: " + x.fieldBits());

        x.setRegister(1, 40);
        x.setRegister(2, 2);
        System.out.println("words until the interrupt: " + x.start(0, 1) + ", then at address " + x.address());
        System.out.println("words of the rest: " + x.resume() + ", r4: " + x.register(4));

        System.out.println("words without the mark: " + x.setMark(0, 1, false));
        System.out.println("changes that can still be undone: " + x.undo());
        System.out.println("written: " + written(x));

        put(x, "op a unit 6 r0=1;");
        int error = -x.load();
        System.out.println("error of kind " + error % 8 + " at offset " + error / 8);
        put(x, "j");
        System.out.println("j: " + x.find());
    }

    /** Twenty bytes at a time, zeros behind the end; then the buffer is cut to the length of the text. */
    private static void put(MicrocodeOptimizer x, String text) {
        byte[] bytes = text.getBytes(StandardCharsets.ISO_8859_1);
        for (int i = 0; i < bytes.length; i += 20) {
            x.append(four(bytes, i), four(bytes, i + 4), four(bytes, i + 8), four(bytes, i + 12), four(bytes, i + 16));
        }
        x.truncate(bytes.length);
    }

    private static int four(byte[] bytes, int at) {
        int value = 0;
        for (int i = at; i < at + 4; i++) {
            value = value << 8 | (i < bytes.length ? bytes[i] & 255 : 0);
        }
        return value;
    }

    private static String written(MicrocodeOptimizer x) {
        StringBuilder text = new StringBuilder();
        int size = x.write();
        for (int i = 0; i < size; i++) {
            text.append((char) x.outputByte(i));
        }
        return text.toString();
    }
}
