import java.math.BigInteger;
import java.util.ArrayDeque;
import java.util.ArrayList;
import java.util.HashMap;
import java.util.HashSet;
import java.util.List;
import java.util.Map;
import java.util.NoSuchElementException;
import java.util.Set;
import java.util.TreeSet;

/** The document once more, by the longest and plainest ways: ThiefTakers is compared with it. */
final class Naive {
    static final class Fault extends RuntimeException {
        private static final long serialVersionUID = 1;
        final int number;
        final int place;

        Fault(int number, int place) {
            this.number = number;
            this.place = place;
        }
    }

    record Token(String text, int place) {
        boolean isWord() {
            return text.matches("[a-z]+");
        }

        boolean isNumber() {
            return text.matches("[0-9]+");
        }
    }

    record Lane(int from, int to, boolean steps) {
    }

    /** null is an ERROR. */
    interface Expr {
        Long value(Map<String, Long> names);
    }

    static final Set<String> LANGUAGE = Set.of("corner", "lane", "steps", "guard", "beat", "thief", "grip", "seed",
            "law", "dread", "take", "stir", "light", "far", "loot", "bold", "had", "guards", "hour", "and", "or", "not");
    static final Set<String> NAMES = Set.of("light", "far", "loot", "bold", "had", "guards", "hour");
    static final Set<String> SIGNS = Set.of(";", "(", ")", "+", "-", "*", "/", "<", "<=", "=", "<>", ">=", ">");

    static final class Town {
        final List<String> corners = new ArrayList<>();
        final List<Integer> light = new ArrayList<>();
        final List<Integer> loot = new ArrayList<>();
        final List<Lane> lanes = new ArrayList<>();
        final List<String> guards = new ArrayList<>();
        final List<Integer> guardAt = new ArrayList<>();
        final Map<Integer, List<Integer>> beats = new HashMap<>();
        final List<String> thieves = new ArrayList<>();
        final List<Integer> thiefAt = new ArrayList<>();
        final List<Integer> bold = new ArrayList<>();
        Integer grip;
        Integer seed;
        final Map<String, Expr> laws = new HashMap<>();
        int knots;
        int lines;

        int grip() {
            return grip == null ? 100 : grip;
        }
    }

    static final class Parser {
        final String text;
        final Town town = new Town();
        final List<Token> tokens = new ArrayList<>();
        int at;
        int open;

        Parser(String text) {
            this.text = text;
            cut();
        }

        void cut() {
            int i = 0;
            while (i < text.length()) {
                char c = text.charAt(i);
                if (c == ' ' || c == '\n') {
                    i++;
                    continue;
                }
                int end = i + 1;
                if (c >= 'a' && c <= 'z') {
                    while (end < text.length() && text.charAt(end) >= 'a' && text.charAt(end) <= 'z') {
                        end++;
                    }
                } else if (c >= '0' && c <= '9') {
                    while (end < text.length() && text.charAt(end) >= '0' && text.charAt(end) <= '9') {
                        end++;
                    }
                } else if (end < text.length() && SIGNS.contains(text.substring(i, end + 1))) {
                    end++;
                }
                tokens.add(new Token(text.substring(i, end), i));
                i = end;
            }
            tokens.add(new Token("", text.length()));
        }

        Token token() {
            return tokens.get(at);
        }

        boolean is(String s) {
            return token().text.equals(s);
        }

        Fault fault(int number) {
            return new Fault(number, token().place);
        }

        void need(boolean good, int number) {
            if (!good) {
                throw fault(number);
            }
        }

        Town parse() {
            while (!is("")) {
                line();
                need(is(";"), 1);
                at++;
                town.lines++;
            }
            return town;
        }

        void line() {
            String word = token().text;
            switch (word) {
                case "corner" -> {
                    need(town.corners.size() < 10, 2);
                    at++;
                    String name = newName(town.corners);
                    int light = number(9);
                    int loot = number(999);
                    town.corners.add(name);
                    town.light.add(light);
                    town.loot.add(loot);
                }
                case "lane", "steps" -> {
                    need(town.lanes.size() < 20, 2);
                    at++;
                    int from = told(town.corners);
                    at++;
                    int to = told(town.corners);
                    boolean steps = word.equals("steps");
                    for (Lane lane : town.lanes) {
                        need(!(lane.steps == steps && lane.from == from && lane.to == to), 3);
                        need(!(!lane.steps && !steps && lane.from == to && lane.to == from), 3);
                    }
                    need(from != to, 5);
                    at++;
                    town.lanes.add(new Lane(from, to, steps));
                }
                case "guard" -> {
                    need(town.guards.size() < 3, 2);
                    at++;
                    String name = newName(town.guards);
                    int corner = told(town.corners);
                    at++;
                    town.guards.add(name);
                    town.guardAt.add(corner);
                }
                case "beat" -> {
                    at++;
                    int guard = told(town.guards);
                    need(!town.beats.containsKey(guard), 3);
                    at++;
                    List<Integer> beat = new ArrayList<>();
                    do {
                        checkWord();
                        need(beat.size() < 8, 2);
                        beat.add(told(town.corners));
                        at++;
                    } while (!is(";"));
                    town.beats.put(guard, beat);
                }
                case "thief" -> {
                    need(town.thieves.size() < 4, 2);
                    at++;
                    String name = newName(town.thieves);
                    int corner = told(town.corners);
                    at++;
                    int bold = number(9);
                    town.thieves.add(name);
                    town.thiefAt.add(corner);
                    town.bold.add(bold);
                }
                case "grip" -> {
                    need(town.grip == null, 3);
                    at++;
                    town.grip = number(100);
                }
                case "seed" -> {
                    need(town.seed == null, 3);
                    at++;
                    town.seed = number(99999);
                }
                case "law" -> {
                    at++;
                    need(is("dread") || is("take") || is("stir"), 1);
                    need(!town.laws.containsKey(token().text), 3);
                    String rule = token().text;
                    at++;
                    open = 0;
                    town.laws.put(rule, or());
                }
                default -> throw fault(1);
            }
        }

        void checkWord() {
            need(token().isWord() && token().text.length() <= 6 && !LANGUAGE.contains(token().text), 1);
        }

        String newName(List<String> told) {
            checkWord();
            need(!told.contains(token().text), 3);
            return tokens.get(at++).text;
        }

        int told(List<String> told) {
            checkWord();
            need(told.contains(token().text), 4);
            return told.indexOf(token().text);
        }

        int number(int most) {
            need(token().isNumber(), 1);
            need(new BigInteger(token().text).compareTo(BigInteger.valueOf(most)) <= 0, 2);
            return Integer.parseInt(new BigInteger(tokens.get(at++).text).toString());
        }

        void knot() {
            need(town.knots < 64, 2);
            town.knots++;
        }

        Expr or() {
            Expr left = and();
            while (is("or")) {
                left = join("or", left, this::and);
            }
            return left;
        }

        Expr and() {
            Expr left = not();
            while (is("and")) {
                left = join("and", left, this::not);
            }
            return left;
        }

        Expr not() {
            if (!is("not")) {
                return compare();
            }
            knot();
            at++;
            Expr inner = not();
            return names -> {
                Long v = inner.value(names);
                return v == null ? null : Long.valueOf(v == 0 ? 1 : 0);
            };
        }

        Expr compare() {
            Expr left = sum();
            if (Set.of("<", "<=", "=", "<>", ">=", ">").contains(token().text)) {
                left = join(token().text, left, this::sum);
            }
            return left;
        }

        Expr sum() {
            Expr left = product();
            while (is("+") || is("-")) {
                left = join(token().text, left, this::product);
            }
            return left;
        }

        Expr product() {
            Expr left = part();
            while (is("*") || is("/")) {
                left = join(token().text, left, this::part);
            }
            return left;
        }

        Expr join(String sign, Expr left, java.util.function.Supplier<Expr> rest) {
            knot();
            at++;
            Expr right = rest.get();
            return names -> joined(sign, left.value(names), right.value(names));
        }

        static Long joined(String sign, Long l, Long r) {
            if (l == null || r == null) {
                return null;
            }
            BigInteger a = BigInteger.valueOf(l);
            BigInteger b = BigInteger.valueOf(r);
            int c = a.compareTo(b);
            BigInteger v;
            switch (sign) {
                case "+": v = a.add(b); break;
                case "-": v = a.subtract(b); break;
                case "*": v = a.multiply(b); break;
                case "/":
                    if (b.signum() == 0) {
                        return null;
                    }
                    v = a.divide(b);
                    break;
                case "<": return c < 0 ? 1L : 0L;
                case "<=": return c <= 0 ? 1L : 0L;
                case "=": return c == 0 ? 1L : 0L;
                case "<>": return c != 0 ? 1L : 0L;
                case ">=": return c >= 0 ? 1L : 0L;
                case ">": return c > 0 ? 1L : 0L;
                case "and": return l != 0 && r != 0 ? 1L : 0L;
                default: return l != 0 || r != 0 ? 1L : 0L;
            }
            return v.abs().compareTo(BigInteger.TEN.pow(12)) > 0 ? null : Long.valueOf(v.longValueExact());
        }

        Expr part() {
            if (is("(")) {
                need(open < 8, 2);
                open++;
                at++;
                Expr inner = or();
                need(is(")"), 1);
                at++;
                open--;
                return inner;
            }
            String word = token().text;
            if (token().isNumber()) {
                need(new BigInteger(word).compareTo(BigInteger.valueOf(9999)) <= 0, 2);
                knot();
                at++;
                long value = Long.parseLong(new BigInteger(word).toString());
                return names -> value;
            }
            need(NAMES.contains(word), 1);
            knot();
            at++;
            return names -> names.get(word);
        }
    }

    static final class State implements Cloneable {
        int hour;
        BigInteger last = BigInteger.ZERO;
        int[] loot;
        int[] guardAt;
        int[] aim;
        int[] caughtMany;
        int[] thiefAt;
        int[] bold;
        int[] had;
        int[] by;
        boolean[] barred;

        @Override
        public State clone() {
            State s = new State();
            s.hour = hour;
            s.last = last;
            s.loot = loot.clone();
            s.guardAt = guardAt.clone();
            s.aim = aim.clone();
            s.caughtMany = caughtMany.clone();
            s.thiefAt = thiefAt.clone();
            s.bold = bold.clone();
            s.had = had.clone();
            s.by = by.clone();
            s.barred = barred.clone();
            return s;
        }
    }

    record FactRow(boolean strikes, int fact, int hours, int thief, int corner, boolean is) {
    }

    private final StringBuilder tape = new StringBuilder();
    private Town town = new Town();
    private State now = first(town);
    private int faultNumber = 0;
    private int faultPlace = -1;
    private State image;
    private final List<State> earlier = new ArrayList<>();
    private final List<FactRow> facts = new ArrayList<>();
    private int known = -1;

    static int[] ints(List<Integer> list) {
        return list.stream().mapToInt(Integer::intValue).toArray();
    }

    static State first(Town town) {
        State s = new State();
        s.loot = ints(town.loot);
        s.guardAt = ints(town.guardAt);
        s.aim = new int[town.guards.size()];
        s.caughtMany = new int[town.guards.size()];
        s.thiefAt = ints(town.thiefAt);
        s.bold = ints(town.bold);
        s.had = new int[town.thieves.size()];
        s.by = new int[town.thieves.size()];
        java.util.Arrays.fill(s.by, -2);
        s.barred = new boolean[town.lanes.size()];
        s.last = BigInteger.valueOf(town.seed == null ? 0 : town.seed);
        return s;
    }

    // ---- streets

    /** How the hours go: what is told otherwise than in the document's plain hour. */
    static final class How {
        boolean numbers;
        boolean all;
        boolean none;
        int stays = -1;
        boolean nobodyStirs;
        boolean bothWays;
    }

    private TreeSet<Integer> next(State s, int corner, boolean bothWays) {
        TreeSet<Integer> set = new TreeSet<>();
        for (int i = 0; i < town.lanes.size(); i++) {
            Lane lane = town.lanes.get(i);
            if (s.barred[i] && !bothWays) {
                continue;
            }
            if (lane.from == corner) {
                set.add(lane.to);
            }
            if (lane.to == corner && (!lane.steps || bothWays)) {
                set.add(lane.from);
            }
        }
        return set;
    }

    private int dist(State s, int from, int to, boolean bothWays) {
        Map<Integer, Integer> seen = new HashMap<>();
        ArrayDeque<Integer> queue = new ArrayDeque<>();
        seen.put(from, 0);
        queue.add(from);
        while (!queue.isEmpty()) {
            int c = queue.poll();
            if (c == to) {
                return seen.get(c);
            }
            for (int d : next(s, c, bothWays)) {
                if (!seen.containsKey(d)) {
                    seen.put(d, seen.get(c) + 1);
                    queue.add(d);
                }
            }
        }
        return 99;
    }

    private int nearest(State s, int corner, boolean bothWays) {
        int best = 99;
        for (int g : s.guardAt) {
            best = Math.min(best, dist(s, g, corner, bothWays));
        }
        return best;
    }

    private Long lawValue(State s, String rule, int thief, int corner, boolean bothWays) {
        if (!town.laws.containsKey(rule)) {
            return null;
        }
        Map<String, Long> names = new HashMap<>();
        names.put("light", (long) town.light.get(corner));
        names.put("loot", (long) s.loot[corner]);
        names.put("far", (long) nearest(s, corner, bothWays));
        long there = 0;
        for (int g : s.guardAt) {
            there += g == corner ? 1 : 0;
        }
        names.put("guards", there);
        names.put("bold", (long) s.bold[thief]);
        names.put("had", (long) s.had[thief]);
        names.put("hour", (long) s.hour);
        return town.laws.get(rule).value(names);
    }

    private void guardsWalk(State s, How how) {
        for (int g = 0; g < s.guardAt.length; g++) {
            List<Integer> beat = town.beats.get(g);
            if (beat == null || how.stays == g) {
                continue;
            }
            if (beat.get(s.aim[g]) == s.guardAt[g]) {
                s.aim[g] = (s.aim[g] + 1) % beat.size();
            }
            int goal = beat.get(s.aim[g]);
            if (goal == s.guardAt[g]) {
                continue;
            }
            int own = dist(s, s.guardAt[g], goal, how.bothWays);
            for (int c : next(s, s.guardAt[g], how.bothWays)) {
                if (dist(s, c, goal, how.bothWays) < own) {
                    s.guardAt[g] = c;
                    break;
                }
            }
        }
    }

    private boolean grips(State s, How how) {
        int grip = town.grip();
        if (how.all) {
            return true;
        }
        if (how.none) {
            return false;
        }
        if (!how.numbers) {
            return grip >= 50;
        }
        if (grip == 0 || grip == 100) {
            return grip == 100;
        }
        s.last = s.last.multiply(BigInteger.valueOf(1103515245)).add(BigInteger.valueOf(12345)).mod(BigInteger.TWO.pow(31));
        return s.last.divide(BigInteger.valueOf(65536)).mod(BigInteger.valueOf(100)).intValue() < grip;
    }

    private void hour(State s, How how) {
        guardsWalk(s, how);
        for (int t = 0; t < s.thiefAt.length; t++) {
            if (s.by[t] != -2 || how.nobodyStirs) {
                continue;
            }
            Long stir = lawValue(s, "stir", t, s.thiefAt[t], how.bothWays);
            if (stir != null && stir == 0) {
                continue;
            }
            List<Integer> order = new ArrayList<>();
            order.add(s.thiefAt[t]);
            order.addAll(next(s, s.thiefAt[t], how.bothWays));
            long least = Long.MAX_VALUE;
            int best = -1;
            for (int c : order) {
                Long dread = lawValue(s, "dread", t, c, how.bothWays);
                long d = dread != null ? dread : town.light.get(c) - 2 * nearest(s, c, how.bothWays);
                if (d < least) {
                    least = d;
                    best = c;
                }
            }
            s.thiefAt[t] = best;
        }
        for (int g = 0; g < s.guardAt.length; g++) {
            for (int t = 0; t < s.thiefAt.length; t++) {
                if (s.by[t] == -2 && s.thiefAt[t] == s.guardAt[g] && grips(s, how)) {
                    s.by[t] = g;
                    s.caughtMany[g]++;
                }
            }
        }
        for (int t = 0; t < s.thiefAt.length; t++) {
            if (s.by[t] == -2) {
                Long take = lawValue(s, "take", t, s.thiefAt[t], how.bothWays);
                long want = take == null ? s.bold[t] + 1 : take < 0 ? 0 : take > 99 ? 99 : take;
                int got = (int) Math.min(want, s.loot[s.thiefAt[t]]);
                s.loot[s.thiefAt[t]] -= got;
                s.had[t] += got;
            }
        }
        s.hour++;
    }

    private State after(State from, int n, How how) {
        State s = from.clone();
        for (int i = 0; i < n; i++) {
            hour(s, how);
        }
        return s;
    }

    private static int sum(int[] row) {
        int sum = 0;
        for (int v : row) {
            sum += v;
        }
        return sum;
    }

    private static int bits(Iterable<Integer> set) {
        int bits = 0;
        for (int v : set) {
            bits |= 1 << v;
        }
        return bits;
    }

    private boolean c(int corner) {
        return corner >= 0 && corner < town.corners.size();
    }

    private boolean g(int guard) {
        return guard >= 0 && guard < town.guards.size();
    }

    private boolean t(int thief) {
        return thief >= 0 && thief < town.thieves.size();
    }

    // ---- the face

    int feed(int a, int b, int c, int d, int e) {
        if (tape.length() + 20 > 700) {
            return -1;
        }
        for (int v : new int[] {a, b, c, d, e}) {
            tape.append((char) (v >>> 24)).append((char) (v >>> 16 & 255)).append((char) (v >>> 8 & 255)).append((char) (v & 255));
        }
        return tape.length();
    }

    int text(int n) {
        if (n < 0 || n > tape.length()) {
            return -2;
        }
        String s = tape.substring(0, n);
        tape.setLength(0);
        try {
            town = new Parser(s).parse();
        } catch (Fault f) {
            faultNumber = f.number;
            faultPlace = f.place;
            return -1;
        }
        faultNumber = 0;
        faultPlace = -1;
        now = first(town);
        image = null;
        earlier.clear();
        facts.clear();
        known = -1;
        return town.lines;
    }

    int fault(int what) {
        return what == 0 ? faultNumber : what == 1 ? faultPlace : -1;
    }

    int named(int what, int letters) {
        List<String> names = what == 0 ? town.corners : what == 1 ? town.guards : what == 2 ? town.thieves : List.of();
        for (int i = 0; i < names.size(); i++) {
            int code = 0;
            for (int k = 0; k < 6; k++) {
                code = code * 32 + (k < names.get(i).length() ? names.get(i).charAt(k) - 96 : 0);
            }
            if (code == letters) {
                return i;
            }
        }
        return -1;
    }

    int corner(int corner, int what) {
        if (!c(corner)) {
            throw new IndexOutOfBoundsException();
        }
        TreeSet<Integer> set = new TreeSet<>();
        switch (what) {
            case 0: return town.light.get(corner);
            case 1: return now.loot[corner];
            case 2:
                for (int i = 0; i < now.guardAt.length; i++) {
                    if (now.guardAt[i] == corner) {
                        set.add(i);
                    }
                }
                return bits(set);
            case 3:
                for (int i = 0; i < now.thiefAt.length; i++) {
                    if (now.thiefAt[i] == corner && now.by[i] == -2) {
                        set.add(i);
                    }
                }
                return bits(set);
            case 4: return bits(next(now, corner, false));
            default: throw new NoSuchElementException();
        }
    }

    int guard(int guard, int what) {
        if (!g(guard) || what < 0 || what > 2) {
            return -1;
        }
        return what == 0 ? now.guardAt[guard] : what == 2 ? now.caughtMany[guard]
                : town.beats.containsKey(guard) ? now.aim[guard] : -2;
    }

    int thief(int thief, int what) {
        if (!t(thief) || what < 0 || what > 3) {
            return -1;
        }
        return new int[] {now.thiefAt[thief], now.bold[thief], now.had[thief], now.by[thief]}[what];
    }

    int lane(int lane, int what) {
        if (lane < 0 || lane >= town.lanes.size() || what < 0 || what > 3) {
            return -1;
        }
        Lane l = town.lanes.get(lane);
        return new int[] {l.from, l.to, l.steps ? 1 : 0, now.barred[lane] ? 1 : 0}[what];
    }

    long law(int what, int thief, int corner) {
        if (what < 0 || what > 2 || !t(thief) || what == 0 && !c(corner)) {
            return Long.MIN_VALUE;
        }
        Long v = lawValue(now, List.of("dread", "take", "stir").get(what), thief, what == 0 ? corner : now.thiefAt[thief], false);
        return v == null ? Long.MIN_VALUE : v;
    }

    private void remember() {
        earlier.add(now.clone());
        if (earlier.size() > 20) {
            earlier.remove(0);
        }
    }

    boolean send(int guard, int corner) {
        if (!g(guard) || !c(corner) || !next(now, now.guardAt[guard], false).contains(corner)) {
            return false;
        }
        remember();
        now.guardAt[guard] = corner;
        return true;
    }

    int bar(int lane) {
        if (lane < 0 || lane >= town.lanes.size()) {
            return -1;
        }
        remember();
        now.barred[lane] = !now.barred[lane];
        return now.barred[lane] ? 1 : 0;
    }

    int drop(int corner, int loot) {
        if (!c(corner) || loot < 1 || loot > 999) {
            return -1;
        }
        remember();
        now.loot[corner] = Math.min(9999, now.loot[corner] + loot);
        return now.loot[corner];
    }

    int go(int n) {
        if (n < 0 || n > 200 || now.hour + n > 9800) {
            return -1;
        }
        How how = new How();
        how.numbers = true;
        now = after(now, n, how);
        if (n > 0) {
            earlier.clear();
        }
        return now.hour;
    }

    int ahead(int n, int what, int i) {
        if (n < 0 || n > 200 || what < 0 || what > 4) {
            return -1;
        }
        if ((what == 1 || what == 4) && !t(i) || what == 3 && !g(i)) {
            return -1;
        }
        State s = after(now, n, new How());
        switch (what) {
            case 0:
                return caughtIn(s);
            case 1: return s.had[i];
            case 2: return sum(s.loot);
            case 3: return s.guardAt[i];
            default: return s.thiefAt[i];
        }
    }

    private static int caughtIn(State s) {
        int many = 0;
        for (int by : s.by) {
            many += by != -2 ? 1 : 0;
        }
        return many;
    }

    int caught(int thief) {
        if (!t(thief)) {
            return -1;
        }
        State s = now.clone();
        for (int h = 0; h <= 199; h++) {
            if (s.by[thief] != -2) {
                return h;
            }
            hour(s, new How());
        }
        return -2;
    }

    int far(int from, int to) {
        return c(from) && c(to) ? dist(now, from, to, false) : -1;
    }

    int way(int from, int to, int k) {
        if (!c(from) || !c(to) || k < 0) {
            return -1;
        }
        if (dist(now, from, to, false) == 99) {
            return -2;
        }
        List<Integer> way = new ArrayList<>();
        way.add(from);
        int at = from;
        while (at != to) {
            for (int n : next(now, at, false)) {
                if (dist(now, n, to, false) < dist(now, at, to, false)) {
                    at = n;
                    way.add(n);
                    break;
                }
            }
        }
        return k < way.size() ? way.get(k) : -2;
    }

    int reach(int corner) {
        if (!c(corner)) {
            return -1;
        }
        TreeSet<Integer> set = new TreeSet<>();
        for (int i = 0; i < town.corners.size(); i++) {
            if (dist(now, corner, i, false) < 99) {
                set.add(i);
            }
        }
        return bits(set);
    }

    int parts() {
        Set<Set<Integer>> parts = new HashSet<>();
        for (int i = 0; i < town.corners.size(); i++) {
            Set<Integer> part = new HashSet<>();
            for (int j = 0; j < town.corners.size(); j++) {
                if (dist(now, i, j, false) < 99 && dist(now, j, i, false) < 99) {
                    part.add(j);
                }
            }
            parts.add(part);
        }
        return parts.size();
    }

    // ---- the chase, straight by rounds

    private List<Integer> stayOrGo(int corner) {
        TreeSet<Integer> set = next(now, corner, false);
        set.add(corner);
        return new ArrayList<>(set);
    }

    private List<List<Integer>> rowsFrom(List<Integer> guards) {
        List<List<Integer>> rows = new ArrayList<>();
        rows.add(List.of());
        for (int g : guards) {
            List<List<Integer>> longer = new ArrayList<>();
            for (List<Integer> row : rows) {
                for (int to : stayOrGo(g)) {
                    List<Integer> r = new ArrayList<>(row);
                    r.add(to);
                    longer.add(r);
                }
            }
            rows = longer;
        }
        return rows;
    }

    private List<List<Integer>> allRows(int guards) {
        List<List<Integer>> rows = new ArrayList<>();
        rows.add(List.of());
        for (int g = 0; g < guards; g++) {
            List<List<Integer>> longer = new ArrayList<>();
            for (List<Integer> row : rows) {
                for (int to = 0; to < town.corners.size(); to++) {
                    List<Integer> r = new ArrayList<>(row);
                    r.add(to);
                    longer.add(r);
                }
            }
            rows = longer;
        }
        return rows;
    }

    static final int NEVER = 1000000;
    private final Map<String, Map<List<Integer>, Map<Integer, Integer>>> solved = new HashMap<>();

    /** For each row of guards and each corner the rounds, the guards being first. */
    private Map<List<Integer>, Map<Integer, Integer>> solve(int guards) {
        StringBuilder key = new StringBuilder().append(guards);
        for (int i = 0; i < town.corners.size(); i++) {
            key.append(next(now, i, false));
        }
        if (solved.containsKey(key.toString())) {
            return solved.get(key.toString());
        }
        Map<List<Integer>, Map<Integer, Integer>> value = new HashMap<>();
        List<List<Integer>> rows = allRows(guards);
        for (List<Integer> row : rows) {
            Map<Integer, Integer> m = new HashMap<>();
            for (int r = 0; r < town.corners.size(); r++) {
                m.put(r, row.contains(r) ? 0 : NEVER);
            }
            value.put(row, m);
        }
        boolean more = true;
        while (more) {
            more = false;
            Map<List<Integer>, Map<Integer, Integer>> better = new HashMap<>();
            for (List<Integer> row : rows) {
                Map<Integer, Integer> m = new HashMap<>(value.get(row));
                for (int r = 0; r < town.corners.size(); r++) {
                    if (m.get(r) == NEVER) {
                        int best = NEVER;
                        for (List<Integer> to : rowsFrom(row)) {
                            best = Math.min(best, onTurn(value, to, r));
                        }
                        if (best < NEVER) {
                            m.put(r, best + 1);
                            more = true;
                        }
                    }
                }
                better.put(row, m);
            }
            value = better;
        }
        solved.put(key.toString(), value);
        return value;
    }

    private int onTurn(Map<List<Integer>, Map<Integer, Integer>> value, List<Integer> guards, int r) {
        if (guards.contains(r)) {
            return 0;
        }
        int worst = 0;
        for (int to : stayOrGo(r)) {
            worst = Math.max(worst, value.get(guards).get(to));
        }
        return worst;
    }

    private List<Integer> places(int guards) {
        List<Integer> row = new ArrayList<>();
        for (int i = 0; i < town.guards.size(); i++) {
            if ((guards >> i & 1) == 1) {
                row.add(now.guardAt[i]);
            }
        }
        return row;
    }

    private boolean gs(int guards) {
        return guards >= 0 && guards < 1 << town.guards.size();
    }

    int chase(int guards, int corner) {
        if (!gs(guards) || !c(corner)) {
            return -1;
        }
        int v = solve(Integer.bitCount(guards)).get(places(guards)).get(corner);
        return v == NEVER ? -2 : v;
    }

    int firstGo(int guards, int corner, int guard) {
        if (!gs(guards) || !c(corner) || !g(guard)) {
            return -1;
        }
        int rounds = chase(guards, corner);
        if (rounds <= 0 || (guards >> guard & 1) == 0) {
            return -2;
        }
        var value = solve(Integer.bitCount(guards));
        for (List<Integer> row : rowsFrom(places(guards))) {
            if (onTurn(value, row, corner) == rounds - 1) {
                int k = 0;
                for (int i = 0; i < guard; i++) {
                    k += guards >> i & 1;
                }
                return row.get(k);
            }
        }
        throw new IllegalStateException();
    }

    int flee(int guards, int corner) {
        if (!gs(guards) || !c(corner)) {
            return -1;
        }
        List<Integer> row = places(guards);
        if (row.contains(corner)) {
            return -2;
        }
        var value = solve(Integer.bitCount(guards)).get(row);
        int latest = -1;
        int best = -1;
        for (int to : stayOrGo(corner)) {
            if (value.get(to) > latest) {
                latest = value.get(to);
                best = to;
            }
        }
        return best;
    }

    private List<Integer> posts() {
        for (int n = 1; n <= 3; n++) {
            var value = solve(n);
            for (List<Integer> row : allRows(n)) {
                boolean rising = true;
                for (int i = 1; i < n; i++) {
                    rising &= row.get(i - 1) <= row.get(i);
                }
                if (rising && !value.get(row).containsValue(NEVER)) {
                    return row;
                }
            }
        }
        return null;
    }

    int takers() {
        if (town.corners.isEmpty()) {
            return 0;
        }
        List<Integer> row = posts();
        return row == null ? -2 : row.size();
    }

    int post(int k) {
        if (k < 0) {
            return -1;
        }
        List<Integer> row = town.corners.isEmpty() ? null : posts();
        return row == null || k >= row.size() ? -2 : row.get(k);
    }

    // ---- sweeping, forward from all corners

    private int flown(int set) {
        TreeSet<Integer> to = new TreeSet<>();
        for (int i = 0; i < town.corners.size(); i++) {
            if ((set >> i & 1) == 1) {
                TreeSet<Integer> next = next(now, i, false);
                if (next.isEmpty()) {
                    to.add(i);
                } else {
                    to.addAll(next);
                }
            }
        }
        return bits(to);
    }

    private int nights(int start, int n) {
        if (start == 0) {
            return 0;
        }
        Map<Integer, Integer> seen = new HashMap<>();
        ArrayDeque<Integer> queue = new ArrayDeque<>();
        seen.put(start, 0);
        queue.add(start);
        int all = (1 << town.corners.size()) - 1;
        while (!queue.isEmpty()) {
            int set = queue.poll();
            for (int look = 0; look <= all; look++) {
                if (Integer.bitCount(look) > n) {
                    continue;
                }
                int rest = set & ~look;
                if (rest == 0) {
                    return seen.get(set) + 1;
                }
                int then = flown(rest);
                if (!seen.containsKey(then)) {
                    seen.put(then, seen.get(set) + 1);
                    queue.add(then);
                }
            }
        }
        return -2;
    }

    int sweep(int n) {
        return n < 1 || n > 10 ? -1 : nights((1 << town.corners.size()) - 1, n);
    }

    int look(int n) {
        int nights = sweep(n);
        if (nights < 1) {
            return nights;
        }
        int all = (1 << town.corners.size()) - 1;
        for (int look = 0; look <= all; look++) {
            if (Integer.bitCount(look) <= n) {
                int rest = all & ~look;
                if ((rest == 0 ? 0 : nights(flown(rest), n)) == nights - 1) {
                    return look;
                }
            }
        }
        throw new IllegalStateException();
    }

    int dark() {
        if (town.corners.isEmpty()) {
            return 0;
        }
        int n = 1;
        while (sweep(n) == -2) {
            n++;
        }
        return n;
    }

    int could(int thief, int n) {
        if (!t(thief) || n < 0 || n > 60) {
            return -1;
        }
        if (now.by[thief] != -2) {
            return 0;
        }
        State s = now.clone();
        TreeSet<Integer> set = new TreeSet<>();
        set.add(s.thiefAt[thief]);
        for (int h = 0; h < n; h++) {
            guardsWalk(s, new How());
            TreeSet<Integer> then = new TreeSet<>();
            for (int corner : set) {
                then.addAll(stayOrGo(corner));
            }
            for (int g : s.guardAt) {
                then.remove(g);
            }
            set = then;
        }
        return bits(set);
    }

    int unseen(int corner) {
        if (!c(corner)) {
            return -1;
        }
        State s = now.clone();
        StringBuilder seen = new StringBuilder();
        for (int h = 0; h < 60; h++) {
            guardsWalk(s, new How());
            boolean near = false;
            for (int g : s.guardAt) {
                near |= dist(s, g, corner, false) < 2;
            }
            seen.append(near ? 'x' : '.');
        }
        int most = 0;
        for (String run : seen.toString().split("x")) {
            most = Math.max(most, run.length());
        }
        return most;
    }

    int round(int corner) {
        if (!c(corner)) {
            return -1;
        }
        int all = (1 << town.corners.size()) - 1;
        Map<List<Integer>, Integer> seen = new HashMap<>();
        ArrayDeque<List<Integer>> queue = new ArrayDeque<>();
        List<Integer> start = List.of(corner, 1 << corner);
        seen.put(start, 0);
        queue.add(start);
        while (!queue.isEmpty()) {
            List<Integer> s = queue.poll();
            if (s.get(1) == all) {
                return seen.get(s);
            }
            for (int to : next(now, s.get(0), false)) {
                List<Integer> then = List.of(to, s.get(1) | 1 << to);
                if (!seen.containsKey(then)) {
                    seen.put(then, seen.get(s) + 1);
                    queue.add(then);
                }
            }
        }
        return -2;
    }

    /** By flow: as many ways without a common lane as may be. */
    int wall(int from, int to) {
        if (!c(from) || !c(to) || from == to) {
            return -1;
        }
        int n = town.corners.size();
        int[][] room = new int[n][n];
        for (int i = 0; i < town.lanes.size(); i++) {
            Lane lane = town.lanes.get(i);
            if (!now.barred[i]) {
                room[lane.from][lane.to]++;
                room[lane.to][lane.from] += lane.steps ? 0 : 1;
            }
        }
        int flow = 0;
        while (push(room, from, to, new boolean[n])) {
            flow++;
        }
        return flow;
    }

    private static boolean push(int[][] room, int at, int to, boolean[] seen) {
        if (at == to) {
            return true;
        }
        seen[at] = true;
        for (int c = 0; c < room.length; c++) {
            if (!seen[c] && room[at][c] > 0 && push(room, c, to, seen)) {
                room[at][c]--;
                room[c][at]++;
                return true;
            }
        }
        return false;
    }

    private static long least(BigInteger above, BigInteger below, int what) {
        BigInteger gcd = above.gcd(below);
        return (what == 0 ? above : below).divide(gcd).longValueExact();
    }

    long drunk(int from, int to, int n, int what) {
        if (!c(from) || !c(to) || n < 0 || n > 4 || what < 0 || what > 1) {
            return -1;
        }
        BigInteger[] f = walk(from, to, n);
        return least(f[0], f[1], what);
    }

    private BigInteger[] walk(int from, int to, int n) {
        if (n == 0) {
            return new BigInteger[] {from == to ? BigInteger.ONE : BigInteger.ZERO, BigInteger.ONE};
        }
        BigInteger above = BigInteger.ZERO;
        BigInteger below = BigInteger.ONE;
        List<Integer> ways = stayOrGo(from);
        for (int c : ways) {
            BigInteger[] f = walk(c, to, n - 1);
            above = above.multiply(f[1]).add(f[0].multiply(below));
            below = below.multiply(f[1]);
            BigInteger gcd = above.gcd(below);
            above = above.divide(gcd);
            below = below.divide(gcd);
        }
        return new BigInteger[] {above, below.multiply(BigInteger.valueOf(ways.size()))};
    }

    private List<List<Integer>> matchings(int guard, Set<Integer> taken) {
        List<List<Integer>> all = new ArrayList<>();
        if (guard == town.guards.size()) {
            all.add(List.of());
            return all;
        }
        for (int t = 0; t <= town.thieves.size(); t++) {
            boolean isNone = t == town.thieves.size();
            if (!isNone && (taken.contains(t) || now.by[t] != -2)) {
                continue;
            }
            Set<Integer> then = new HashSet<>(taken);
            if (!isNone) {
                then.add(t);
            }
            for (List<Integer> rest : matchings(guard + 1, then)) {
                List<Integer> row = new ArrayList<>();
                row.add(isNone ? -2 : t);
                row.addAll(rest);
                all.add(row);
            }
        }
        return all;
    }

    int match(int what) {
        if (what < 0 || what > 4) {
            return -1;
        }
        List<Integer> best = null;
        int bestMany = -1;
        int bestSum = 0;
        for (List<Integer> row : matchings(0, Set.of())) {
            int many = 0;
            int sum = 0;
            for (int g = 0; g < row.size(); g++) {
                if (row.get(g) != -2) {
                    many++;
                    sum += dist(now, now.guardAt[g], now.thiefAt[row.get(g)], false);
                }
            }
            if (many > bestMany || many == bestMany && sum < bestSum) {
                best = row;
                bestMany = many;
                bestSum = sum;
            }
        }
        return what == 3 ? bestMany : what == 4 ? bestSum : what < best.size() ? best.get(what) : -2;
    }

    private List<Integer> restRow(int one, int other) {
        int both = 4 + (now.had[one] + now.had[other]) / 100;
        int[][] first = {{3 - now.bold[one] / 4, 5}, {0, both}};
        int[][] second = {{3 - now.bold[other] / 4, 5}, {0, both}};
        List<Integer> rests = new ArrayList<>();
        for (int a = 0; a < 2; a++) {
            for (int b = 0; b < 2; b++) {
                if (first[a][b] >= first[1 - a][b] && second[b][a] >= second[1 - b][a]) {
                    rests.add(10 * a + b);
                }
            }
        }
        return rests;
    }

    int rests(int one, int other) {
        return !t(one) || !t(other) || one == other ? -1 : restRow(one, other).size();
    }

    int rest(int one, int other, int k) {
        if (!t(one) || !t(other) || one == other || k < 0) {
            return -1;
        }
        List<Integer> rests = restRow(one, other);
        return k < rests.size() ? rests.get(k) : -2;
    }

    long holds(int n, int what) {
        if (n < 0 || n > 6 || what < 0 || what > 1) {
            return -1;
        }
        return least(BigInteger.valueOf(town.grip()).pow(n), BigInteger.valueOf(100).pow(n), what);
    }

    // ---- facts

    int see(int hours, int thief, int corner, boolean is) {
        if (hours < 1 || hours > 60 || !t(thief) || !c(corner) || facts.size() == 24) {
            return -1;
        }
        facts.add(new FactRow(false, -1, hours, thief, corner, is));
        return facts.size() - 1;
    }

    int strike(int fact) {
        if (fact < 0 || fact >= facts.size() || facts.size() == 24) {
            return -1;
        }
        facts.add(new FactRow(true, fact, 0, 0, 0, false));
        return facts.size() - 1;
    }

    boolean known(int n) {
        if (n < -1 || n > facts.size()) {
            return false;
        }
        known = n;
        return true;
    }

    private boolean struck(int fact, int n) {
        for (int i = fact + 1; i < n; i++) {
            if (facts.get(i).strikes && facts.get(i).fact == fact && !struck(i, n)) {
                return true;
            }
        }
        return false;
    }

    int bolds(int thief) {
        if (!t(thief)) {
            return -1;
        }
        TreeSet<Integer> set = new TreeSet<>();
        int n = known == -1 ? facts.size() : known;
        for (int b = 0; b < 10; b++) {
            boolean so = true;
            for (int i = 0; i < n; i++) {
                FactRow f = facts.get(i);
                if (!f.strikes && !struck(i, n)) {
                    so &= (fromText(thief, b, f.hours).thiefAt[f.thief] == f.corner) == f.is;
                }
            }
            if (so) {
                set.add(b);
            }
        }
        return bits(set);
    }

    private State fromText(int thief, int bold, int hours) {
        State s = first(town);
        s.bold[thief] = bold;
        return after(s, hours, new How());
    }

    int ask(int thief, int what) {
        if (!t(thief) || what < 0 || what > 1) {
            return -1;
        }
        int bolds = bolds(thief);
        int bestHour = 1;
        int best = 100;
        for (int h = 1; h <= 60; h++) {
            Map<Integer, Integer> groups = new HashMap<>();
            for (int b = 0; b < 10; b++) {
                if ((bolds >> b & 1) == 1) {
                    groups.merge(fromText(thief, b, h).had[thief], 1, Integer::sum);
                }
            }
            int worst = groups.values().stream().mapToInt(Integer::intValue).max().orElse(0);
            if (worst < best) {
                best = worst;
                bestHour = h;
            }
        }
        return what == 0 ? bestHour : best;
    }

    int chance(int seed, int n, int thief) {
        if (seed < 0 || n < 1 || n > 99 || !t(thief)) {
            return -1;
        }
        int times = 0;
        BigInteger last = BigInteger.valueOf(seed);
        How how = new How();
        how.numbers = true;
        for (int k = 0; k < 10; k++) {
            State s = now.clone();
            s.last = last;
            s = after(s, n, how);
            last = s.last;
            times += s.by[thief] == -2 ? 0 : 1;
        }
        return times;
    }

    int tried(int what, int i, int n) {
        if (what < 0 || what > 4 || n < 0 || n > 200 || what == 2 && !g(i) || what != 2 && i != 0) {
            return -1;
        }
        How how = new How();
        how.all = what == 0;
        how.none = what == 1;
        how.stays = what == 2 ? i : -1;
        how.nobodyStirs = what == 3;
        how.bothWays = what == 4;
        return sum(after(now, n, how).had);
    }

    int undo() {
        if (earlier.isEmpty()) {
            return -1;
        }
        now = earlier.remove(earlier.size() - 1);
        return earlier.size();
    }

    int keep() {
        image = now.clone();
        return now.hour;
    }

    int back() {
        if (image == null) {
            return -1;
        }
        now = image.clone();
        earlier.clear();
        return now.hour;
    }

    int count(int what) {
        switch (what) {
            case 0: return town.corners.size();
            case 1: return town.lanes.size();
            case 2: return town.guards.size();
            case 3: return town.thieves.size();
            case 4: return town.knots;
            case 5: return now.hour;
            case 6: return caughtIn(now);
            case 7: return sum(now.loot);
            case 8: return sum(now.had);
            case 9:
                int barred = 0;
                for (boolean b : now.barred) {
                    barred += b ? 1 : 0;
                }
                return barred;
            case 10: return facts.size();
            case 11: return known == -1 ? facts.size() : known;
            case 12: return earlier.size();
            default: return -1;
        }
    }
}
