import java.lang.reflect.Constructor;
import java.lang.reflect.Field;
import java.lang.reflect.Method;
import java.lang.reflect.Modifier;
import java.util.Arrays;
import java.util.Set;
import java.util.TreeSet;
import java.util.stream.Collectors;

/** The face of the class: what the document names and nothing else, and LANGUAGE.md's rules about members. */
public final class FaceTest {
    private static final String[] FACE = {
        "int append(int,int,int,int,int)", "boolean truncate(int)", "int bufferLength()", "int load()", "int find()",
        "int write()", "int outputByte(int)", "int operationCount()", "int instructionCount()",
        "int operation(int,int)", "int length(int)", "int operationAt(int,int)", "boolean hasMark(int,int)",
        "int dependence(int,int,int)", "int setMode(int)", "int mode()", "int setMark(int,int,boolean)", "int undo()",
        "int wordCount(int)", "int word(int,int)", "int chain(int)", "int latency(int)", "int storeSize()",
        "int entry(int)", "int store(int,int)", "int fieldCount()", "int fieldBits()", "int fieldOf(int)",
        "int codeOf(int)", "long control(int)", "int setRegister(int,int)", "int register(int)", "int runSource(int)",
        "int start(int,int)", "int resume()", "int address()", "boolean agrees(int)"
    };
    private static final Check CHECK = new Check();

    public static void main(String[] args) {
        Class<?> face = MicrocodeOptimizer.class;
        CHECK.due("public and final", face.getModifiers(), Modifier.PUBLIC | Modifier.FINAL);
        Set<String> methods = new TreeSet<>();
        Set<String> names = new TreeSet<>();
        for (Method m : face.getDeclaredMethods()) {
            if (!Modifier.isPrivate(m.getModifiers())) {
                CHECK.due("only public: " + m.getName(), m.getModifiers(), Modifier.PUBLIC);
                methods.add(signature(m));
                names.add(m.getName());
            }
        }
        CHECK.due("the methods", methods.toString(), new TreeSet<>(Arrays.asList(FACE)).toString());
        Constructor<?>[] constructors = face.getDeclaredConstructors();
        CHECK.due("one constructor", constructors.length, 1);
        CHECK.due("it is public", constructors[0].getModifiers(), Modifier.PUBLIC);
        CHECK.due("it takes nothing", constructors[0].getParameterCount(), 0);
        for (Field f : face.getDeclaredFields()) {
            boolean isNone = f.getName().equals("NONE");
            CHECK.due("private but for NONE: " + f.getName(), Modifier.isPrivate(f.getModifiers()), !isNone);
            CHECK.due("public NONE: " + f.getName(), Modifier.isPublic(f.getModifiers()), isNone);
        }
        CHECK.due("NONE", MicrocodeOptimizer.NONE, -1);
        privateNames(face, names);
        for (Class<?> inside : face.getDeclaredClasses()) {
            CHECK.due("static: " + inside, Modifier.isStatic(inside.getModifiers()), true);
            CHECK.due("not public: " + inside, Modifier.isPublic(inside.getModifiers()), false);
            privateNames(inside, names);
        }
        CHECK.due("at most twelve classes", face.getDeclaredClasses().length <= 11, true);
        CHECK.end();
    }

    private static String signature(Method m) {
        return m.getReturnType() + " " + m.getName() + Arrays.stream(m.getParameterTypes())
                .map(Class::getName).collect(Collectors.joining(",", "(", ")"));
    }

    private static void privateNames(Class<?> of, Set<String> names) {
        for (Method m : of.getDeclaredMethods()) {
            boolean isFace = Modifier.isPublic(m.getModifiers());
            CHECK.due("no public name: " + m, !isFace && names.contains(m.getName()), false);
            CHECK.due("at most seven parameters: " + m, m.getParameterCount() <= 7, true);
        }
        for (Field f : of.getDeclaredFields()) {
            boolean isStatic = Modifier.isStatic(f.getModifiers());
            CHECK.due("static is final: " + f, !isStatic || Modifier.isFinal(f.getModifiers()), true);
        }
    }
}
