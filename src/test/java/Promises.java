import java.lang.reflect.InvocationTargetException;
import java.lang.reflect.Method;
import java.util.ArrayList;
import java.util.Comparator;
import java.util.List;
import java.util.Set;
import java.util.TreeSet;
import java.util.regex.Matcher;
import java.util.regex.Pattern;

/** Runs the tests that are named after their promise, as promise14_go_endsAt9800AtMost. */
final class Promises {
    private static final String[] NAMES = {"newObject", "feed", "text", "fault", "named", "corner", "guard", "thief", "lane",
        "law", "send", "bar", "drop", "go", "ahead", "caught", "far", "way", "reach", "parts", "chase", "firstGo", "flee",
        "takers", "post", "sweep", "look", "dark", "could", "unseen", "round", "wall", "drunk", "match", "rests", "rest",
        "holds", "see", "strike", "known", "bolds", "ask", "chance", "tried", "undo", "keep", "back", "count"};
    private static final Pattern NAME = Pattern.compile("promise(\\d+)_([a-zA-Z]+)_\\w+");

    private Promises() {
    }

    /** Runs the class's tests, which are those of the promises first to last; or only those with a name that starts as asked. */
    static void run(Class<?> tests, int first, int last, String... asked) {
        if (asked.length == 0) {
            runAll(tests, first, last);
        } else {
            runAsked(tests, asked);
        }
        Told.end();
    }

    /** None of the promises may lack a test. */
    private static void runAll(Class<?> tests, int first, int last) {
        Set<Integer> lacking = new TreeSet<>();
        for (int promise = first; promise <= last; promise++) {
            lacking.add(promise);
        }
        for (Method test : testsOf(tests)) {
            int promise = promiseOf(test);
            Told.due(test.getName() + " is of this class", promise >= first && promise <= last, true);
            lacking.remove(promise);
            runOne(test);
        }
        Told.inTest("");
        Told.due("promises without a test: " + lacking, lacking.size(), 0);
    }

    private static void runAsked(Class<?> tests, String[] asked) {
        for (String start : asked) {
            int many = 0;
            for (Method test : testsOf(tests)) {
                if (test.getName().startsWith(start)) {
                    System.out.println(test.getName());
                    runOne(test);
                    many++;
                }
            }
            Told.inTest("");
            Told.due("there is a test that starts as " + start, many > 0, true);
        }
    }

    private static List<Method> testsOf(Class<?> tests) {
        List<Method> found = new ArrayList<>();
        for (Method method : tests.getDeclaredMethods()) {
            if (method.getName().startsWith("promise")) {
                found.add(method);
            }
        }
        found.sort(Comparator.comparing(Promises::promiseOf).thenComparing(Method::getName));
        return found;
    }

    private static int promiseOf(Method test) {
        Matcher name = NAME.matcher(test.getName());
        int promise = name.matches() ? Integer.parseInt(name.group(1)) : 0;
        boolean fits = promise >= 1 && promise <= NAMES.length && NAMES[promise - 1].equals(name.group(2));
        return fits ? promise : 0;
    }

    private static void runOne(Method test) {
        Told.inTest(test.getName() + ": ");
        try {
            test.setAccessible(true);
            test.invoke(null);
        } catch (InvocationTargetException e) {
            e.getCause().printStackTrace(System.out);
            Told.due("it ends without " + e.getCause(), false, true);
        } catch (IllegalAccessException e) {
            Told.due("it can be run", false, true);
        }
    }
}
