import java.lang.reflect.Constructor;
import java.lang.reflect.Field;
import java.lang.reflect.Method;
import java.lang.reflect.Modifier;
import java.util.Arrays;
import java.util.Set;
import java.util.TreeSet;
import java.util.stream.Collectors;

/** The face of the class: what the document names and nothing else, and LANGUAGE.md's rules about members. */
public final class FaceTest {
    /** As the document has it. */
    private static final String FACE = """
            int append(int a, int b, int c, int d, int e)
            boolean truncate(int length)
            int bufferLength()
            int load()
            int find()
            int write()
            int outputByte(int index) throws NoSuchElementException
            int operationCount()
            int instructionCount()
            int operation(int operation, int what) throws IndexOutOfBoundsException, IllegalArgumentException
            int length(int instruction) throws IndexOutOfBoundsException
            int operationAt(int instruction, int index) throws IndexOutOfBoundsException
            boolean hasMark(int instruction, int index) throws IndexOutOfBoundsException
            int dependence(int instruction, int first, int second) throws IndexOutOfBoundsException
            int setMode(int mode) throws IllegalArgumentException
            int mode()
            int setMark(int instruction, int index, boolean isThere) throws IndexOutOfBoundsException, IllegalStateException
            int undo()
            int wordCount(int instruction) throws IndexOutOfBoundsException
            int word(int instruction, int index) throws IndexOutOfBoundsException
            int chain(int instruction) throws IndexOutOfBoundsException
            int latency(int instruction) throws IndexOutOfBoundsException
            int storeSize()
            int entry(int instruction) throws IndexOutOfBoundsException
            int store(int address, int what) throws IndexOutOfBoundsException, IllegalArgumentException
            int fieldCount()
            int fieldBits()
            int fieldOf(int operation) throws IndexOutOfBoundsException
            int codeOf(int operation) throws IndexOutOfBoundsException
            long control(int address) throws IndexOutOfBoundsException
            int setRegister(int register, int value) throws IndexOutOfBoundsException
            int register(int register) throws IndexOutOfBoundsException
            int runSource(int instruction) throws IndexOutOfBoundsException, IllegalStateException
            int start(int instruction, int words) throws IndexOutOfBoundsException, IllegalArgumentException, IllegalStateException
            int resume() throws IllegalStateException
            int address()
            boolean agrees(int instruction) throws IndexOutOfBoundsException
            """;
    private static final Check CHECK = new Check();

    public static void main(String[] args) {
        Class<?> face = MicrocodeOptimizer.class;
        CHECK.due("public and final", face.getModifiers(), Modifier.PUBLIC | Modifier.FINAL);
        Set<String> methods = new TreeSet<>();
        Set<String> names = new TreeSet<>();
        for (Method m : face.getDeclaredMethods()) {
            if (!Modifier.isPrivate(m.getModifiers())) {
                CHECK.due("only public: " + m.getName(), m.getModifiers(), Modifier.PUBLIC);
                methods.add(signature(m));
                names.add(m.getName());
            }
        }
        CHECK.due("the methods", methods.toString(), faceOfTheDocument().toString());
        Constructor<?>[] constructors = face.getDeclaredConstructors();
        CHECK.due("one constructor", constructors.length, 1);
        CHECK.due("it is public", constructors[0].getModifiers(), Modifier.PUBLIC);
        CHECK.due("it takes nothing", constructors[0].getParameterCount(), 0);
        for (Field f : face.getDeclaredFields()) {
            boolean isNone = f.getName().equals("NONE");
            CHECK.due("private but for NONE: " + f.getName(), Modifier.isPrivate(f.getModifiers()), !isNone);
            CHECK.due("public NONE: " + f.getName(), Modifier.isPublic(f.getModifiers()), isNone);
        }
        CHECK.due("NONE", MicrocodeOptimizer.NONE, -1);
        privateNames(face, names);
        for (Class<?> inside : face.getDeclaredClasses()) {
            CHECK.due("static: " + inside, Modifier.isStatic(inside.getModifiers()), true);
            CHECK.due("not public: " + inside, Modifier.isPublic(inside.getModifiers()), false);
            privateNames(inside, names);
        }
        CHECK.due("at most twelve classes", face.getDeclaredClasses().length <= 11, true);
        CHECK.end();
    }

    private static Set<String> faceOfTheDocument() {
        Set<String> lines = new TreeSet<>();
        for (String line : FACE.split("\n")) {
            lines.add(line.replaceAll("(int|boolean) \\w+(?=[,)])", "$1"));
        }
        return lines;
    }

    private static String signature(Method m) {
        return m.getReturnType() + " " + m.getName() + joined(m.getParameterTypes(), "(", ")")
                + (m.getExceptionTypes().length == 0 ? "" : joined(m.getExceptionTypes(), " throws ", ""));
    }

    private static String joined(Class<?>[] types, String before, String behind) {
        return Arrays.stream(types).map(Class::getSimpleName).collect(Collectors.joining(", ", before, behind));
    }

    private static void privateNames(Class<?> of, Set<String> names) {
        for (Method m : of.getDeclaredMethods()) {
            boolean isFace = Modifier.isPublic(m.getModifiers());
            CHECK.due("no public name: " + m, !isFace && names.contains(m.getName()), false);
            CHECK.due("at most seven parameters: " + m, m.getParameterCount() <= 7, true);
        }
        long own = Arrays.stream(of.getDeclaredFields()).filter(f -> !Modifier.isStatic(f.getModifiers())).count();
        CHECK.due("some twenty fields: " + of, own <= 20, true);
        for (Field f : of.getDeclaredFields()) {
            boolean isStatic = Modifier.isStatic(f.getModifiers());
            CHECK.due("static is final: " + f, !isStatic || Modifier.isFinal(f.getModifiers()), true);
        }
    }
}
