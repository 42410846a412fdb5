import java.lang.reflect.InvocationTargetException;
import java.lang.reflect.Method;
import java.nio.charset.StandardCharsets;
import java.util.ArrayList;
import java.util.Arrays;
import java.util.Comparator;
import java.util.List;
import java.util.Random;

/** Random towns and random calls, each answered by ThiefTakers and by Naive alike. */
public final class ComparedWithNaiveTest {
    private static final List<Method> FACE = new ArrayList<>();
    private static final List<Method> PLAIN = new ArrayList<>();
    private static final String[] WORDS = {"corner", "lane", "steps", "guard", "beat", "thief", "grip", "seed", "law",
        "dread", "take", "stir", "light", "far", "loot", "bold", "had", "guards", "hour", "and", "or", "not", "a", "b",
        "c", "g", "t", "abcdef", "abcdefg", "0", "1", "9", "10", "99", "100", "999", "1000", "9999", "10000", "99999",
        "100000", "00000000000000007", "99999999999999999999", ";", ";", "(", ")", "+", "-", "*", "/", "<", "<=", "=",
        "<>", ">=", ">", "#", "A", "\t", "\u00e9"};
    private static int wrong = 0;

    public static void main(String[] args) throws Exception {
        for (Method m : ThiefTakers.class.getDeclaredMethods()) {
            if (java.lang.reflect.Modifier.isPublic(m.getModifiers())) {
                FACE.add(m);
            }
        }
        FACE.sort(Comparator.comparing(Method::getName));
        for (Method m : FACE) {
            Method plain = Naive.class.getDeclaredMethod(m.getName(), m.getParameterTypes());
            plain.setAccessible(true);
            PLAIN.add(plain);
        }
        int runs = args.length > 0 ? Integer.parseInt(args[0]) : 250;
        int firstSeed = args.length > 1 ? Integer.parseInt(args[1]) : 1;
        for (int seed = firstSeed; seed < firstSeed + runs && wrong < 20; seed++) {
            new Run(seed, 5, 8).play(120);
        }
        for (int seed = firstSeed; seed < firstSeed + runs / 20 && wrong < 20; seed++) {
            new Run(-seed, 10, 26).play(120);
        }
        for (int seed = firstSeed; seed < firstSeed + runs * 50 && wrong < 20; seed++) {
            brokenText(new Random(seed));
        }
        for (int seed = firstSeed; seed < firstSeed + Math.max(1, runs / 60) && wrong < 20; seed++) {
            sweepEdges(seed);
        }
        System.out.println(wrong == 0 ? "all answers are alike" : wrong + " answers are not alike");
        if (wrong != 0) {
            System.exit(1);
        }
    }

    /** Numbers at the document's edges, fewer of them where a call takes more. */
    private static final int[][] EDGES = {{}, {Integer.MIN_VALUE, -2, -1, 0, 1, 2, 3, 4, 5, 6, 7, 8, 9, 10, 11, 12, 13, 19, 20, 24, 25,
        31, 32, 60, 61, 99, 100, 200, 201, 700, 999, 1000, 9999, 10000, Integer.MAX_VALUE},
        {Integer.MIN_VALUE, -1, 0, 1, 2, 3, 4, 5, 6, 7, 10, 32, 60, 61, 99, 999, 1000, Integer.MAX_VALUE},
        {-1, 0, 1, 2, 3, 4, 5, 99, 100, 200, 201, Integer.MAX_VALUE}, {-1, 0, 1, 2, 4, 5, 60, 61}};
    /** An object is used for 512 calls at most; telling a text takes up to 40 of them. */
    private static final int MOST_CALLS = 460;

    /** Every call with every row of edges, on towns of all sizes in turn. */
    private static void sweepEdges(int seed) throws Exception {
        Run run = null;
        int calls = 0;
        for (int which = 0; which < FACE.size() && wrong < 20; which++) {
            int many = FACE.get(which).getParameterCount();
            int[] edges = many < EDGES.length ? EDGES[many] : new int[0];
            int rows = (int) Math.round(Math.pow(edges.length, many));
            for (int row = 0; row < rows && wrong < 20; row++) {
                if (calls % MOST_CALLS == 0) {
                    run = new Run(seed + calls, 1 + calls / MOST_CALLS % 5, 8);
                    run.play(10);
                }
                run.callWith(which, rowOf(edges, many, row));
                calls++;
            }
        }
    }

    private static int[] rowOf(int[] edges, int many, int row) {
        int[] numbers = new int[many];
        int rest = row;
        for (int k = 0; k < many; k++) {
            numbers[k] = edges[rest % edges.length];
            rest /= edges.length;
        }
        return numbers;
    }

    private static final class Run {
        final int seed;
        final Random random;
        final ThiefTakers real = new ThiefTakers();
        final Naive naive = new Naive();
        final StringBuilder told = new StringBuilder();

        final int mostCorners;
        final int mostLanes;

        Run(int seed, int mostCorners, int mostLanes) {
            this.seed = seed;
            this.random = new Random(seed);
            this.mostCorners = mostCorners;
            this.mostLanes = mostLanes;
        }

        void play(int calls) throws Exception {
            tell(town(random, mostCorners, mostLanes));
            for (int k = 0; k < calls && wrong < 20; k++) {
                if (random.nextInt(100) == 0) {
                    tell(random.nextBoolean() ? town(random, mostCorners, mostLanes) : "corner zz 1;");
                } else {
                    call(random.nextInt(FACE.size()));
                }
            }
        }

        void tell(String text) throws Exception {
            byte[] bytes = text.getBytes(StandardCharsets.ISO_8859_1);
            told.append(text).append('\n');
            if (naive.count(1) == 0) {
                compare("text(0)", real.text(0), naive.text(0));
            }
            feedAll(real, naive, bytes);
            compare("text(" + bytes.length + ")", real.text(bytes.length), naive.text(bytes.length));
        }

        void compare(String call, Object a, Object b) {
            if (told.length() < 6000) {
                told.append(call).append(" = ").append(b).append('\n');
            }
            if (!a.equals(b)) {
                wrong++;
                System.out.println("seed " + seed + ": " + call + " answered " + a + ", due is " + b + " behind\n" + told);
            }
        }

        void call(int which) throws Exception {
            Method m = FACE.get(which);
            String name = m.getName();
            if (name.equals("text") && random.nextInt(20) > 0 || name.equals("feed") && random.nextInt(5) > 0
                    || name.equals("go") && random.nextInt(3) > 0) {
                return;
            }
            Class<?>[] types = m.getParameterTypes();
            Object[] args = new Object[types.length];
            int[] bounds = boundsOf(name);
            boolean wild = random.nextInt(5) == 0;
            for (int i = 0; i < args.length; i++) {
                args[i] = types[i] == boolean.class ? (Object) (random.nextInt(4) == 0)
                        : (Object) (wild || i >= bounds.length ? number() : random.nextInt(bounds[i]));
            }
            if (name.equals("tried") && random.nextInt(8) > 0) {
                args[1] = (Integer) args[0] == 2 ? args[1] : 0;
            }
            compare(name + Arrays.toString(args), answer(m, real, args), answer(PLAIN.get(which), naive, args));
        }

        void callWith(int which, int[] numbers) throws Exception {
            Method m = FACE.get(which);
            Class<?>[] types = m.getParameterTypes();
            Object[] args = new Object[types.length];
            for (int i = 0; i < args.length; i++) {
                args[i] = types[i] == boolean.class ? (Object) (numbers[i] % 2 == 0) : (Object) numbers[i];
            }
            compare(m.getName() + Arrays.toString(args), answer(m, real, args), answer(PLAIN.get(which), naive, args));
        }

        /** For each number of a call: below what most of the drawn ones are. */
        int[] boundsOf(String name) {
            int corners = Math.max(1, naive.count(0));
            int lanes = Math.max(1, naive.count(1));
            int guards = Math.max(1, naive.count(2));
            int thieves = Math.max(1, naive.count(3));
            int groups = 1 << guards;
            switch (name) {
                case "corner": return new int[] {corners, 5};
                case "guard": return new int[] {guards, 3};
                case "thief": return new int[] {thieves, 4};
                case "lane": return new int[] {lanes, 4};
                case "law": return new int[] {3, thieves, corners};
                case "send": return new int[] {guards, corners};
                case "bar": return new int[] {lanes};
                case "drop": return new int[] {corners, 1000};
                case "go": return new int[] {8};
                case "ahead": return new int[] {20, 5, thieves};
                case "caught": case "bolds": return new int[] {thieves};
                case "far": case "wall": return new int[] {corners, corners};
                case "way": return new int[] {corners, corners, 5};
                case "reach": case "unseen": case "round": return new int[] {corners};
                case "chase": case "flee": return new int[] {groups, corners};
                case "firstGo": return new int[] {groups, corners, guards};
                case "post": return new int[] {4};
                case "sweep": case "look": return new int[] {corners + 1};
                case "could": return new int[] {thieves, 12};
                case "drunk": return new int[] {corners, corners, 5, 2};
                case "match": return new int[] {5};
                case "rests": return new int[] {thieves, thieves};
                case "rest": return new int[] {thieves, thieves, 3};
                case "holds": return new int[] {7, 2};
                case "see": return new int[] {12, thieves, corners};
                case "strike": case "known": return new int[] {1 + naive.count(10)};
                case "ask": return new int[] {thieves, 2};
                case "chance": return new int[] {Integer.MAX_VALUE, 20, thieves};
                case "tried": return new int[] {5, guards, 30};
                case "count": return new int[] {13};
                default: return new int[0];
            }
        }

        int number() {
            switch (random.nextInt(16)) {
                case 0: return -1;
                case 1: return random.nextInt(12);
                case 2: return random.nextInt(62);
                case 3: return random.nextInt(202);
                case 4: return random.nextInt(1001);
                case 5: return random.nextInt();
                case 6: return 1 + random.nextInt(26) << 25;
                default: return random.nextInt(5);
            }
        }
    }

    private static Object answer(Method m, Object on, Object[] args) throws Exception {
        try {
            return m.invoke(on, args);
        } catch (InvocationTargetException e) {
            return e.getCause().getClass().getSimpleName();
        }
    }

    static void feedAll(ThiefTakers real, Naive naive, byte[] bytes) {
        for (int i = 0; i < bytes.length; i += 20) {
            int[] five = new int[5];
            for (int k = 0; k < 20; k++) {
                five[k / 4] = five[k / 4] << 8 | (i + k < bytes.length ? bytes[i + k] & 255 : 0);
            }
            real.feed(five[0], five[1], five[2], five[3], five[4]);
            naive.feed(five[0], five[1], five[2], five[3], five[4]);
        }
    }

    private static void brokenText(Random random) {
        StringBuilder text = new StringBuilder(random.nextBoolean() ? town(random, 5, 8) : lawOnly(random));
        int changes = random.nextInt(3);
        for (int k = 0; k < changes && text.length() > 0; k++) {
            int at = random.nextInt(text.length());
            switch (random.nextInt(4)) {
                case 0 -> text.insert(at, WORDS[random.nextInt(WORDS.length)]);
                case 1 -> text.insert(at, " " + WORDS[random.nextInt(WORDS.length)] + " ");
                case 2 -> text.deleteCharAt(at);
                default -> text.setLength(at);
            }
        }
        byte[] bytes = text.toString().getBytes(StandardCharsets.ISO_8859_1);
        int length = Math.min(700, bytes.length);
        ThiefTakers real = new ThiefTakers();
        Naive naive = new Naive();
        feedAll(real, naive, Arrays.copyOf(bytes, length));
        int a = real.text(length);
        int b = naive.text(length);
        if (a != b || real.fault(0) != naive.fault(0) || real.fault(1) != naive.fault(1) || real.count(4) != naive.count(4)) {
            wrong++;
            System.out.println("text answered " + a + " fault " + real.fault(0) + " at " + real.fault(1) + ", due is " + b
                    + " fault " + naive.fault(0) + " at " + naive.fault(1) + ": " + text);
        }
    }

    private static String lawOnly(Random random) {
        StringBuilder text = new StringBuilder();
        for (String rule : new String[] {"dread", "take", "stir"}) {
            text.append("law ").append(rule).append(' ').append(expression(random, 6)).append(';');
        }
        return text.toString();
    }

    static String expression(Random random, int depth) {
        if (depth == 0 || random.nextInt(5) == 0) {
            return random.nextBoolean() ? "" + random.nextInt(random.nextInt(4) == 0 ? 10000 : 12)
                    : random.nextInt(3) == 0 ? "bold" : WORDS[12 + random.nextInt(7)];
        }
        switch (random.nextInt(9)) {
            case 0: return "not " + expression(random, depth - 1);
            case 1: return "(" + expression(random, depth - 1) + ")";
            case 2: return expression(random, depth - 1) + " and " + expression(random, depth - 1);
            case 3: return expression(random, depth - 1) + " or " + expression(random, depth - 1);
            case 4: return "(" + expression(random, depth - 1) + ")" + WORDS[51 + random.nextInt(6)] + "(" + expression(random, depth - 1) + ")";
            default:
                return expression(random, depth - 1) + "+-*/".charAt(random.nextInt(4)) + expression(random, depth - 1);
        }
    }

    static String town(Random random, int mostCorners, int mostLanes) {
        StringBuilder text = new StringBuilder();
        int corners = mostCorners - random.nextInt(Math.min(5, mostCorners));
        for (int i = 0; i < corners; i++) {
            text.append("corner ").append((char) ('a' + i)).append(' ').append(random.nextInt(10)).append(' ')
                    .append(random.nextInt(100)).append(";");
        }
        int tries = random.nextInt(mostLanes);
        int lanes = 0;
        String used = "";
        for (int i = 0; i < tries && lanes < 20 && corners > 1; i++) {
            int a = random.nextInt(corners);
            int b = (a + 1 + random.nextInt(corners - 1)) % corners;
            boolean steps = random.nextInt(3) == 0;
            String key = steps ? "s" + a + b + " " : "l" + Math.min(a, b) + Math.max(a, b) + " ";
            if (!used.contains(key)) {
                used += key;
                lanes++;
                text.append(steps ? "steps " : "lane ").append((char) ('a' + a)).append(' ').append((char) ('a' + b)).append(";");
            }
        }
        int guards = random.nextInt(4);
        for (int i = 0; i < guards; i++) {
            text.append("guard ").append((char) ('g' + i)).append(' ').append((char) ('a' + random.nextInt(corners))).append(";");
            if (random.nextInt(4) > 0) {
                text.append("beat ").append((char) ('g' + i));
                int places = 1 + random.nextInt(4);
                for (int k = 0; k < places; k++) {
                    text.append(' ').append((char) ('a' + random.nextInt(corners)));
                }
                text.append(";");
            }
        }
        int thieves = random.nextInt(5);
        for (int i = 0; i < thieves; i++) {
            text.append("thief ").append((char) ('s' + i)).append(' ').append((char) ('a' + random.nextInt(corners))).append(' ')
                    .append(random.nextInt(10)).append(";");
        }
        if (random.nextInt(4) > 0) {
            text.append("grip ").append(random.nextInt(3) == 0 ? random.nextInt(2) * 100 : random.nextInt(101)).append(";");
        }
        if (random.nextBoolean()) {
            text.append("seed ").append(random.nextInt(100000)).append(";");
        }
        for (String rule : new String[] {"dread", "take", "stir"}) {
            if (random.nextBoolean()) {
                text.append("law ").append(rule).append(' ').append(expression(random, 2)).append(";");
            }
        }
        return text.length() > 700 ? "corner a 1 1;" : text.toString();
    }
}
