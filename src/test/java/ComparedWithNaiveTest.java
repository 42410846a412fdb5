import java.lang.reflect.InvocationTargetException;
import java.lang.reflect.Method;
import java.nio.charset.StandardCharsets;
import java.util.ArrayList;
import java.util.Arrays;
import java.util.Comparator;
import java.util.List;
import java.util.Random;

/** Random towns and random calls, each answered by ThiefTakers and by Naive alike. */
public final class ComparedWithNaiveTest {
    private static final List<Method> FACE = new ArrayList<>();
    private static final List<Method> PLAIN = new ArrayList<>();
    private static final String[] WORDS = {"corner", "lane", "steps", "guard", "beat", "thief", "grip", "seed", "law",
        "dread", "take", "stir", "light", "far", "loot", "bold", "had", "guards", "hour", "and", "or", "not", "a", "b",
        "c", "g", "t", "abcdef", "abcdefg", "0", "1", "9", "10", "99", "100", "999", "1000", "9999", "10000", "99999",
        "100000", "00000000000000007", "99999999999999999999", ";", ";", "(", ")", "+", "-", "*", "/", "<", "<=", "=",
        "<>", ">=", ">", "#", "A", "\t", "\u00e9"};
    private static int wrong = 0;

    public static void main(String[] args) throws Exception {
        for (Method m : ThiefTakers.class.getDeclaredMethods()) {
            if (java.lang.reflect.Modifier.isPublic(m.getModifiers())) {
                FACE.add(m);
            }
        }
        FACE.sort(Comparator.comparing(Method::getName));
        for (Method m : FACE) {
            Method plain = Naive.class.getDeclaredMethod(m.getName(), m.getParameterTypes());
            plain.setAccessible(true);
            PLAIN.add(plain);
        }
        int runs = args.length > 0 ? Integer.parseInt(args[0]) : 400;
        int firstSeed = args.length > 1 ? Integer.parseInt(args[1]) : 1;
        for (int seed = firstSeed; seed < firstSeed + runs && wrong < 20; seed++) {
            new Run(seed).play();
        }
        for (int seed = firstSeed; seed < firstSeed + runs * 50 && wrong < 20; seed++) {
            brokenText(new Random(seed));
        }
        System.out.println(wrong == 0 ? "all answers are alike" : wrong + " answers are not alike");
        if (wrong != 0) {
            System.exit(1);
        }
    }

    private static final class Run {
        final int seed;
        final Random random;
        final ThiefTakers real = new ThiefTakers();
        final Naive naive = new Naive();
        final StringBuilder told = new StringBuilder();

        Run(int seed) {
            this.seed = seed;
            this.random = new Random(seed);
        }

        void play() throws Exception {
            tell(town(random));
            int calls = 120;
            for (int k = 0; k < calls && wrong < 20; k++) {
                if (random.nextInt(60) == 0) {
                    tell(random.nextBoolean() ? town(random) : "corner zz 1;");
                } else {
                    call(random.nextInt(FACE.size()));
                }
            }
        }

        void tell(String text) throws Exception {
            byte[] bytes = text.getBytes(StandardCharsets.ISO_8859_1);
            told.append(text).append('\n');
            compare("text(0)", real.text(0), naive.text(0));
            feedAll(real, naive, bytes);
            compare("text(" + bytes.length + ")", real.text(bytes.length), naive.text(bytes.length));
        }

        void compare(String call, Object a, Object b) {
            if (told.length() < 6000) {
                told.append(call).append(" = ").append(b).append('\n');
            }
            if (!a.equals(b)) {
                wrong++;
                System.out.println("seed " + seed + ": " + call + " answered " + a + ", due is " + b + " behind\n" + told);
            }
        }

        void call(int which) throws Exception {
            Method m = FACE.get(which);
            if (m.getName().equals("text") && random.nextInt(10) > 0 || m.getName().equals("feed") && random.nextInt(5) > 0) {
                return;
            }
            Class<?>[] types = m.getParameterTypes();
            Object[] args = new Object[types.length];
            for (int i = 0; i < args.length; i++) {
                args[i] = types[i] == boolean.class ? (Object) random.nextBoolean() : (Object) number();
            }
            if (m.getName().equals("tried") && random.nextInt(4) > 0) {
                args[1] = (Integer) args[0] == 2 ? args[1] : 0;
            }
            compare(m.getName() + Arrays.toString(args), answer(m, real, args), answer(PLAIN.get(which), naive, args));
        }

        int number() {
            switch (random.nextInt(16)) {
                case 0: return -1;
                case 1: return random.nextInt(12);
                case 2: return random.nextInt(62);
                case 3: return random.nextInt(202);
                case 4: return random.nextInt(1001);
                case 5: return random.nextInt();
                case 6: return 1 + random.nextInt(26) << 25;
                default: return random.nextInt(5);
            }
        }
    }

    private static Object answer(Method m, Object on, Object[] args) throws Exception {
        try {
            return m.invoke(on, args);
        } catch (InvocationTargetException e) {
            return e.getCause().getClass().getSimpleName();
        }
    }

    static void feedAll(ThiefTakers real, Naive naive, byte[] bytes) {
        for (int i = 0; i < bytes.length; i += 20) {
            int[] five = new int[5];
            for (int k = 0; k < 20; k++) {
                five[k / 4] = five[k / 4] << 8 | (i + k < bytes.length ? bytes[i + k] & 255 : 0);
            }
            real.feed(five[0], five[1], five[2], five[3], five[4]);
            naive.feed(five[0], five[1], five[2], five[3], five[4]);
        }
    }

    private static void brokenText(Random random) {
        StringBuilder text = new StringBuilder(random.nextBoolean() ? town(random) : lawOnly(random));
        int changes = random.nextInt(3);
        for (int k = 0; k < changes && text.length() > 0; k++) {
            int at = random.nextInt(text.length());
            switch (random.nextInt(4)) {
                case 0 -> text.insert(at, WORDS[random.nextInt(WORDS.length)]);
                case 1 -> text.insert(at, " " + WORDS[random.nextInt(WORDS.length)] + " ");
                case 2 -> text.deleteCharAt(at);
                default -> text.setLength(at);
            }
        }
        byte[] bytes = text.toString().getBytes(StandardCharsets.ISO_8859_1);
        int length = Math.min(700, bytes.length);
        ThiefTakers real = new ThiefTakers();
        Naive naive = new Naive();
        feedAll(real, naive, Arrays.copyOf(bytes, length));
        int a = real.text(length);
        int b = naive.text(length);
        if (a != b || real.fault(0) != naive.fault(0) || real.fault(1) != naive.fault(1) || real.count(4) != naive.count(4)) {
            wrong++;
            System.out.println("text answered " + a + " fault " + real.fault(0) + " at " + real.fault(1) + ", due is " + b
                    + " fault " + naive.fault(0) + " at " + naive.fault(1) + ": " + text);
        }
    }

    private static String lawOnly(Random random) {
        StringBuilder text = new StringBuilder();
        for (String rule : new String[] {"dread", "take", "stir"}) {
            text.append("law ").append(rule).append(' ').append(expression(random, 6)).append(';');
        }
        return text.toString();
    }

    static String expression(Random random, int depth) {
        if (depth == 0 || random.nextInt(5) == 0) {
            return random.nextBoolean() ? "" + random.nextInt(random.nextInt(4) == 0 ? 10000 : 12)
                    : WORDS[12 + random.nextInt(7)];
        }
        switch (random.nextInt(9)) {
            case 0: return "not " + expression(random, depth - 1);
            case 1: return "(" + expression(random, depth - 1) + ")";
            case 2: return expression(random, depth - 1) + " and " + expression(random, depth - 1);
            case 3: return expression(random, depth - 1) + " or " + expression(random, depth - 1);
            case 4: return "(" + expression(random, depth - 1) + ")" + WORDS[51 + random.nextInt(6)] + "(" + expression(random, depth - 1) + ")";
            default:
                return expression(random, depth - 1) + "+-*/".charAt(random.nextInt(4)) + expression(random, depth - 1);
        }
    }

    static String town(Random random) {
        StringBuilder text = new StringBuilder();
        int corners = 1 + random.nextInt(5);
        for (int i = 0; i < corners; i++) {
            text.append("corner ").append((char) ('a' + i)).append(' ').append(random.nextInt(10)).append(' ')
                    .append(random.nextInt(100)).append(";");
        }
        int lanes = random.nextInt(8);
        String used = "";
        for (int i = 0; i < lanes && corners > 1; i++) {
            int a = random.nextInt(corners);
            int b = (a + 1 + random.nextInt(corners - 1)) % corners;
            boolean steps = random.nextInt(3) == 0;
            String key = steps ? "s" + a + b + " " : "l" + Math.min(a, b) + Math.max(a, b) + " ";
            if (!used.contains(key)) {
                used += key;
                text.append(steps ? "steps " : "lane ").append((char) ('a' + a)).append(' ').append((char) ('a' + b)).append(";");
            }
        }
        int guards = random.nextInt(4);
        for (int i = 0; i < guards; i++) {
            text.append("guard ").append((char) ('g' + i)).append(' ').append((char) ('a' + random.nextInt(corners))).append(";");
            if (random.nextInt(4) > 0) {
                text.append("beat ").append((char) ('g' + i));
                int places = 1 + random.nextInt(4);
                for (int k = 0; k < places; k++) {
                    text.append(' ').append((char) ('a' + random.nextInt(corners)));
                }
                text.append(";");
            }
        }
        int thieves = random.nextInt(5);
        for (int i = 0; i < thieves; i++) {
            text.append("thief ").append((char) ('s' + i)).append(' ').append((char) ('a' + random.nextInt(corners))).append(' ')
                    .append(random.nextInt(10)).append(";");
        }
        if (random.nextInt(4) > 0) {
            text.append("grip ").append(random.nextInt(3) == 0 ? random.nextInt(2) * 100 : random.nextInt(101)).append(";");
        }
        if (random.nextBoolean()) {
            text.append("seed ").append(random.nextInt(100000)).append(";");
        }
        for (String rule : new String[] {"dread", "take", "stir"}) {
            if (random.nextBoolean()) {
                text.append("law ").append(rule).append(' ').append(expression(random, 2)).append(";");
            }
        }
        return text.length() > 700 ? "corner a 1 1;" : text.toString();
    }
}
