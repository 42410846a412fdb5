import java.io.IOException;
import java.util.ArrayList;
import java.util.HashMap;
import java.util.HashSet;
import java.util.List;
import java.util.Map;
import java.util.Set;

/** The rules of LANGUAGE.md that can be seen from what javac makes of the class: calls, exceptions, what is made where. */
public final class BytecodeTest {
    private static final int DEEPEST = 8;
    private static final Set<String> LIBRARY = Set.of("java/lang/Object.<init>()V", "java/lang/String.charAt(I)C",
            "java/lang/String.length()I", "java/lang/Math.min(II)I", "java/lang/Math.min(JJ)J", "java/lang/Math.max(II)I",
            "java/lang/Math.max(JJ)J", "java/lang/Integer.bitCount(I)I", "java/util/Arrays.fill([II)V",
            "java/util/Arrays.fill([JJ)V",
            "java/lang/System.arraycopy(Ljava/lang/Object;ILjava/lang/Object;II)V",
            "java/lang/IndexOutOfBoundsException.<init>(Ljava/lang/String;)V",
            "java/util/NoSuchElementException.<init>(Ljava/lang/String;)V");
    private static final Set<String> THROWN = Set.of("java/lang/IndexOutOfBoundsException", "java/util/NoSuchElementException");
    private static final String CORNER = "ThiefTakers.corner(II)I";

    private static final Map<String, ClassFile.Method> OWN = new HashMap<>();
    private static final Map<String, Integer> DEPTHS = new HashMap<>();

    public static void main(String[] args) throws IOException {
        for (ClassFile file : files()) {
            for (ClassFile.Method method : file.methods) {
                OWN.put(method.name(), method);
            }
        }
        Told.due("methods are found", OWN.size() > 150, true);
        for (ClassFile.Method method : OWN.values()) {
            calls(method);
            exceptions(method);
            makes(method);
            casts(method);
        }
        for (ClassFile.Method method : OWN.values()) {
            int depth = depthOf(method.name(), new HashSet<>());
            Told.due(method.name() + " is " + depth + " calls deep", depth <= DEEPEST, true);
        }
        Told.end();
    }

    private static List<ClassFile> files() throws IOException {
        List<ClassFile> files = new ArrayList<>();
        files.add(ClassFile.of("ThiefTakers"));
        for (Class<?> inside : ThiefTakers.class.getDeclaredClasses()) {
            files.add(ClassFile.of(inside.getName()));
        }
        return files;
    }

    private static List<String> calledBy(ClassFile.Method method) {
        List<String> called = new ArrayList<>();
        for (ClassFile.Step step : method.steps()) {
            if (step.code() >= ClassFile.FIRST_CALL && step.code() < ClassFile.DYNAMIC_CALL) {
                called.add(step.names());
            }
        }
        return called;
    }

    /** Rule 4: nothing of the library but these, all of which it lists. */
    private static void calls(ClassFile.Method method) {
        for (String called : calledBy(method)) {
            Told.due(method.name() + " calls " + called, OWN.containsKey(called) || LIBRARY.contains(called), true);
        }
    }

    /** Rule 6, promise 6: corner alone throws, and nothing is caught. */
    private static void exceptions(ClassFile.Method method) {
        Told.due(method.name() + " catches", method.catches(), 0);
        boolean isCorner = method.name().equals(CORNER);
        Told.due(method.name() + " throws", count(method, ClassFile.THROW), isCorner ? 2 : 0);
        for (ClassFile.Step step : method.steps()) {
            if (step.code() == ClassFile.NEW && THROWN.contains(step.names())) {
                Told.due(method.name() + " makes " + step.names(), isCorner, true);
            }
        }
    }

    /** All rows are made with the object: calls make none, so that room is counted by objects. */
    private static void makes(ClassFile.Method method) {
        if (method.isConstructor()) {
            return;
        }
        int made = method.name().equals(CORNER) ? 2 : 0;
        Told.due(method.name() + " makes objects", count(method, ClassFile.NEW), made);
        for (int code : new int[] {ClassFile.NEW_ARRAY, ClassFile.NEW_OBJECT_ARRAY, ClassFile.NEW_ARRAYS}) {
            Told.due(method.name() + " makes rows by " + code, count(method, code), 0);
        }
    }

    /** Rules 2, 6 and 7: no cast that could fail, nothing dynamic, nothing synchronized. */
    private static void casts(ClassFile.Method method) {
        for (int code : new int[] {ClassFile.CAST, ClassFile.INSTANCE_OF, ClassFile.ENTER, ClassFile.EXIT, ClassFile.DYNAMIC_CALL}) {
            Told.due(method.name() + " has steps " + code, count(method, code), 0);
        }
    }

    private static int count(ClassFile.Method method, int code) {
        int many = 0;
        for (ClassFile.Step step : method.steps()) {
            many += step.code() == code ? 1 : 0;
        }
        return many;
    }

    /** Rules 8 and 11: how many of the class's own methods are open at once; a method that comes back to itself is endless. */
    private static int depthOf(String method, Set<String> open) {
        Integer known = DEPTHS.get(method);
        if (known != null) {
            return known;
        }
        if (!open.add(method)) {
            return 1000;
        }
        int deepest = 0;
        for (String called : calledBy(OWN.get(method))) {
            deepest = Math.max(deepest, OWN.containsKey(called) ? depthOf(called, open) : 0);
        }
        open.remove(method);
        DEPTHS.put(method, deepest + 1);
        return deepest + 1;
    }
}
