import java.io.IOException;
import java.lang.reflect.Field;
import java.lang.reflect.Method;
import java.lang.reflect.Modifier;
import java.nio.charset.StandardCharsets;
import java.nio.file.Files;
import java.nio.file.Path;
import java.util.ArrayList;
import java.util.Arrays;
import java.util.List;
import java.util.Set;
import java.util.TreeSet;
import java.util.regex.Matcher;
import java.util.regex.Pattern;

/** The rules of LANGUAGE.md that can be seen from the class and its source. */
public final class LanguageTest {
    private static final Set<String> FACE = Set.of("int feed(int,int,int,int,int)", "int text(int)", "int fault(int)",
            "int named(int,int)", "int corner(int,int)", "int guard(int,int)", "int thief(int,int)", "int lane(int,int)",
            "long law(int,int,int)", "boolean send(int,int)", "int bar(int)", "int drop(int,int)", "int go(int)",
            "int ahead(int,int,int)", "int caught(int)", "int far(int,int)", "int way(int,int,int)", "int reach(int)",
            "int parts()", "int chase(int,int)", "int firstGo(int,int,int)", "int flee(int,int)", "int takers()",
            "int post(int)", "int sweep(int)", "int look(int)", "int dark()", "int could(int,int)", "int unseen(int)",
            "int round(int)", "int wall(int,int)", "long drunk(int,int,int,int)", "int match(int)", "int rests(int,int)",
            "int rest(int,int,int)", "long holds(int,int)", "int see(int,int,int,boolean)", "int strike(int)",
            "boolean known(int)", "int bolds(int)", "int ask(int,int)", "int chance(int,int,int)", "int tried(int,int,int)",
            "int undo()", "int keep()", "int back()", "int count(int)");
    private static final int LONGEST_METHOD = 60;

    public static void main(String[] args) throws IOException {
        face();
        List<Class<?>> classes = new ArrayList<>(List.of(ThiefTakers.class.getDeclaredClasses()));
        classes.add(ThiefTakers.class);
        Told.due("twelve classes at most", classes.size() <= 12, true);
        for (Class<?> c : classes) {
            members(c);
        }
        source(Files.readString(Path.of("src/main/java/ThiefTakers.java"), StandardCharsets.ISO_8859_1));
        Told.end();
    }

    private static void face() {
        int modifiers = ThiefTakers.class.getModifiers();
        Told.due("public and final", Modifier.isPublic(modifiers) && Modifier.isFinal(modifiers), true);
        Set<String> found = new TreeSet<>();
        for (Method m : ThiefTakers.class.getDeclaredMethods()) {
            if (Modifier.isPublic(m.getModifiers())) {
                List<String> types = new ArrayList<>();
                Arrays.stream(m.getParameterTypes()).forEach(t -> types.add(t.getName()));
                found.add(m.getReturnType().getName() + " " + m.getName() + "(" + String.join(",", types) + ")");
            } else {
                Told.due(m.getName() + " is private", Modifier.isPrivate(m.getModifiers()), true);
            }
        }
        Set<String> lacking = new TreeSet<>(FACE);
        lacking.removeAll(found);
        Told.due("not in the face: " + lacking, lacking.size(), 0);
        found.removeAll(FACE);
        Told.due("too much in the face: " + found, found.size(), 0);
        Told.due("constructors", ThiefTakers.class.getDeclaredConstructors().length, 1);
        Told.due("a public one", ThiefTakers.class.getConstructors().length, 1);
        for (Field f : ThiefTakers.class.getDeclaredFields()) {
            boolean isNone = f.getName().equals("NONE") && Modifier.isPublic(f.getModifiers());
            Told.due(f.getName() + " is private or NONE", isNone || Modifier.isPrivate(f.getModifiers()), true);
        }
        Told.due("NONE", ThiefTakers.NONE, -1);
    }

    private static void members(Class<?> c) {
        Set<String> names = new TreeSet<>();
        FACE.forEach(m -> names.add(m.replaceAll("^\\w+ (\\w+).*", "$1")));
        boolean outer = c == ThiefTakers.class;
        Told.due(c + " is static and not public", outer
                || Modifier.isStatic(c.getModifiers()) && Modifier.isPrivate(c.getModifiers()), true);
        int fields = 0;
        for (Field f : c.getDeclaredFields()) {
            boolean isStatic = Modifier.isStatic(f.getModifiers());
            Told.due(f + " is final, if static", !isStatic || Modifier.isFinal(f.getModifiers()), true);
            fields += isStatic ? 0 : 1;
        }
        Told.due("fields of " + c + ": " + fields, fields <= 20, true);
        for (Method m : c.getDeclaredMethods()) {
            Told.due("parameters of " + m, m.getParameterCount() <= 7, true);
            boolean ofFace = outer && Modifier.isPublic(m.getModifiers());
            Told.due(m + " bears a name of the face", ofFace || !names.contains(m.getName()), true);
        }
    }

    private static void source(String source) {
        String code = source.replaceAll("(?s)/\\*.*?\\*/", "").replaceAll("//[^\n]*", "");
        for (String banned : new String[] {"catch (", "try {", "finally", "->", "::", "Exact(", "synchronized", "assert", "instanceof",
            "static {", "Object", "double", "float", "\" +", "+ \"", "getClass", "hashCode", "toString", "equals(", "while (true)",
            "for (;;)"}) {
            Told.due("in the source: " + banned, code.contains(banned), false);
        }
        Matcher imports = Pattern.compile("import ([\\w.]+);").matcher(code);
        while (imports.find()) {
            Told.due(imports.group(), Set.of("java.util.Arrays", "java.util.NoSuchElementException").contains(imports.group(1)), true);
        }
        Matcher calls = Pattern.compile("\\b(System|Math|Arrays|Integer|Long)\\.(\\w+)").matcher(code);
        Set<String> library = Set.of("arraycopy", "min", "max", "fill", "bitCount", "MAX_VALUE", "MIN_VALUE");
        while (calls.find()) {
            Told.due(calls.group(), library.contains(calls.group(2)), true);
        }
        for (int k = 0; k < source.length(); k++) {
            if (source.charAt(k) > 126) {
                Told.due("a sign beyond 126 at " + k, 1, 0);
            }
        }
        String[] lines = source.split("\n");
        int start = -1;
        for (int k = 0; k < lines.length; k++) {
            if (lines[k].matches("( {4}| {8})(public |private |static |final )*[\\w\\[\\]]+ \\w+\\(.*\\{")) {
                start = k;
            } else if (start >= 0 && lines[k].matches("( {4}| {8})\\}")) {
                Told.due("lines of " + lines[start].trim(), k - start < LONGEST_METHOD, true);
                start = -1;
            }
        }
    }
}
