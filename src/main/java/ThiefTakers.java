import java.util.Arrays;
import java.util.NoSuchElementException;

/** A town of corners, guards and thieves; ../shared/DOC.md says what each call promises. */
public final class ThiefTakers {
    public static final int NONE = -1;

    /** The document's second "no": what is asked for exists, but not so much or so far of it. */
    private static final int LACKING = -2;
    /** Stands where a guard's number would for a thief whom nobody has caught. */
    private static final int FREE = -2;
    /** FAR, where no lane leads. */
    private static final int NO_WAY = 99;

    private static final int MOST_CORNERS = 10;
    private static final int MOST_LANES = 20;
    private static final int MOST_GUARDS = 3;
    private static final int MOST_PLACES = 8;
    private static final int MOST_THIEVES = 4;
    private static final int MOST_KNOTS = 64;
    private static final int MOST_OPEN = 8;
    private static final int MOST_FACTS = 24;
    private static final int MOST_DEEDS = 20;
    private static final int MOST_BYTES = 700;
    private static final int MOST_LOOT = 9999;
    private static final int LAST_HOUR = 9800;
    private static final int SETS = 1 << MOST_CORNERS;
    private static final int BOLD_KINDS = 10;
    private static final int FACT_HOURS = 60;

    private static final int DREAD = 0;
    private static final int TAKE = 1;
    private static final int STIR = 2;
    private static final int RULES = 3;

    private final byte[] tape = new byte[MOST_BYTES];
    private int fed = 0;
    private Town town = new Town();
    /** A text is read into this one, so that a text with a fault leaves the town as it is. */
    private Town spare = new Town();
    private final Reader reader = new Reader();
    private final Night now = new Night();
    private final Night image = new Night();
    private boolean imaged = false;
    /** What comes is played on this one, never on the night that is. */
    private final Night played = new Night();
    private final Streets streets = new Streets();
    private final Streets otherStreets = new Streets();
    private final Hours hours = new Hours();
    private final Chase chase = new Chase();
    private final Sets sets = new Sets();
    private final Facts facts = new Facts();
    private final Deeds deeds = new Deeds();

    public ThiefTakers() {
    }

    public int feed(int a, int b, int c, int d, int e) {
        if (fed + 20 > MOST_BYTES) {
            return NONE;
        }
        putFour(a);
        putFour(b);
        putFour(c);
        putFour(d);
        putFour(e);
        return fed;
    }

    private void putFour(int number) {
        for (int shift = 24; shift >= 0 && fed < tape.length; shift -= 8) {
            tape[fed] = (byte) (number >> shift);
            fed++;
        }
    }

    public int text(int n) {
        if (n < 0 || n > fed) {
            return LACKING;
        }
        fed = 0;
        if (!reader.readText(tape, n, spare)) {
            return NONE;
        }
        Town told = spare;
        spare = town;
        town = told;
        now.copyFrom(town.start);
        streets.build(town, 0, false);
        facts.clear();
        deeds.clear();
        imaged = false;
        return reader.lines;
    }

    public int fault(int what) {
        if (what == 0) {
            return reader.fault;
        }
        return what == 1 ? reader.faultPlace : NONE;
    }

    public int named(int what, int letters) {
        if (what == 0) {
            return Town.placeOf(letters, town.cornerNames, town.corners);
        }
        if (what == 1) {
            return Town.placeOf(letters, town.guardNames, town.guards);
        }
        return what == 2 ? Town.placeOf(letters, town.thiefNames, town.thieves) : NONE;
    }

    public int corner(int corner, int what) throws IndexOutOfBoundsException, NoSuchElementException {
        if (!isCorner(corner)) {
            throw new IndexOutOfBoundsException("no such corner");
        }
        switch (what) {
            case 0:
                return town.lights[corner];
            case 1:
                return now.loot[corner];
            case 2:
                return guardsAt(corner);
            case 3:
                return thievesAt(corner);
            case 4:
                return streets.nexts[corner];
            default:
                throw new NoSuchElementException("no such what");
        }
    }

    private int guardsAt(int corner) {
        int bits = 0;
        for (int guard = 0; guard < town.guards; guard++) {
            bits |= now.guardAt[guard] == corner ? 1 << guard : 0;
        }
        return bits;
    }

    private int thievesAt(int corner) {
        int bits = 0;
        for (int thief = 0; thief < town.thieves; thief++) {
            bits |= now.isFree(thief) && now.thiefAt[thief] == corner ? 1 << thief : 0;
        }
        return bits;
    }

    public int guard(int guard, int what) {
        if (!isGuard(guard)) {
            return NONE;
        }
        switch (what) {
            case 0:
                return now.guardAt[guard];
            case 1:
                return town.beatLengths[guard] == 0 ? LACKING : now.aim[guard];
            case 2:
                return now.catches[guard];
            default:
                return NONE;
        }
    }

    public int thief(int thief, int what) {
        if (!isThief(thief)) {
            return NONE;
        }
        switch (what) {
            case 0:
                return now.thiefAt[thief];
            case 1:
                return now.bold[thief];
            case 2:
                return now.had[thief];
            case 3:
                return now.caughtBy[thief];
            default:
                return NONE;
        }
    }

    public int lane(int lane, int what) {
        if (!isLane(lane)) {
            return NONE;
        }
        switch (what) {
            case 0:
                return town.laneFrom[lane];
            case 1:
                return town.laneTo[lane];
            case 2:
                return town.steps >> lane & 1;
            case 3:
                return now.barred >> lane & 1;
            default:
                return NONE;
        }
    }

    public long law(int what, int thief, int corner) {
        if (what < DREAD || what > STIR || !isThief(thief) || what == DREAD && !isCorner(corner)) {
            return Law.ERROR;
        }
        hours.setUp(town, streets, now, Hours.AS_IT_GOES);
        return hours.lawValue(what, thief, what == DREAD ? corner : now.thiefAt[thief]);
    }

    public boolean send(int guard, int corner) {
        if (!isGuard(guard) || !isCorner(corner)) {
            return false;
        }
        int from = now.guardAt[guard];
        if ((streets.nexts[from] >> corner & 1) == 0) {
            return false;
        }
        deeds.note(Deeds.SENT, guard, from);
        now.guardAt[guard] = corner;
        return true;
    }

    public int bar(int lane) {
        if (!isLane(lane)) {
            return NONE;
        }
        deeds.note(Deeds.BARRED, lane, 0);
        turnBar(lane);
        return now.barred >> lane & 1;
    }

    private void turnBar(int lane) {
        now.barred ^= 1 << lane;
        streets.build(town, now.barred, false);
    }

    public int drop(int corner, int loot) {
        if (!isCorner(corner) || loot < 1 || loot > 999) {
            return NONE;
        }
        deeds.note(Deeds.DROPPED, corner, now.loot[corner]);
        now.loot[corner] = Math.min(now.loot[corner] + loot, MOST_LOOT);
        return now.loot[corner];
    }

    public int go(int n) {
        if (n < 0 || n > 200 || now.hour + n > LAST_HOUR) {
            return NONE;
        }
        hours.setUp(town, streets, now, Hours.BY_NUMBERS);
        hours.passMany(n);
        if (n > 0) {
            deeds.clear();
        }
        return now.hour;
    }

    public int ahead(int n, int what, int i) {
        boolean ofThief = what == 1 || what == 4;
        if (n < 0 || n > 200 || what < 0 || what > 4 || ofThief && !isThief(i) || what == 3 && !isGuard(i)) {
            return NONE;
        }
        playAsItGoes();
        hours.passMany(n);
        switch (what) {
            case 0:
                return played.howManyCaught(town.thieves);
            case 1:
                return played.had[i];
            case 2:
                return played.lootOfAll(town.corners);
            case 3:
                return played.guardAt[i];
            default:
                return played.thiefAt[i];
        }
    }

    private void playAsItGoes() {
        played.copyFrom(now);
        hours.setUp(town, streets, played, Hours.AS_IT_GOES);
    }

    public int caught(int thief) {
        if (!isThief(thief)) {
            return NONE;
        }
        playAsItGoes();
        for (int hour = 0; hour < 199; hour++) {
            if (!played.isFree(thief)) {
                return hour;
            }
            hours.pass();
        }
        return played.isFree(thief) ? LACKING : 199;
    }

    public int far(int from, int to) {
        return isCorner(from) && isCorner(to) ? streets.lanesBetween(from, to) : NONE;
    }

    public int way(int from, int to, int k) {
        if (!isCorner(from) || !isCorner(to) || k < 0) {
            return NONE;
        }
        int lanes = streets.lanesBetween(from, to);
        if (lanes == NO_WAY || k > lanes) {
            return LACKING;
        }
        int at = from;
        for (int gone = 0; gone < k && at != NONE; gone++) {
            at = streets.onward(at, to);
        }
        return at;
    }

    public int reach(int corner) {
        return isCorner(corner) ? streets.reached(corner) : NONE;
    }

    public int parts() {
        return streets.howManyParts();
    }

    public int chase(int guards, int corner) {
        if (!areGuards(guards) || !isCorner(corner)) {
            return NONE;
        }
        int rounds = roundsOfChase(guards, corner);
        return rounds == Chase.NEVER ? LACKING : rounds;
    }

    private int roundsOfChase(int guards, int corner) {
        if (guards == 0) {
            return Chase.NEVER;
        }
        chase.solve(streets, Integer.bitCount(guards));
        return chase.roundsFrom(rowOf(guards), corner);
    }

    /** The guards' corners as the digits of a number with as many kinds as corners, the first guard's in front. */
    private int rowOf(int guards) {
        int row = 0;
        for (int guard = 0; guard < town.guards; guard++) {
            row = (guards >> guard & 1) == 1 ? row * town.corners + now.guardAt[guard] : row;
        }
        return row;
    }

    public int firstGo(int guards, int corner, int guard) {
        if (!areGuards(guards) || !isCorner(corner) || !isGuard(guard)) {
            return NONE;
        }
        int rounds = roundsOfChase(guards, corner);
        if (rounds == 0 || rounds == Chase.NEVER || (guards >> guard & 1) == 0) {
            return LACKING;
        }
        int guardsBehind = Integer.bitCount(guards >> guard) - 1;
        return chase.cornerIn(chase.firstRow(rowOf(guards), corner), guardsBehind);
    }

    public int flee(int guards, int corner) {
        if (!areGuards(guards) || !isCorner(corner)) {
            return NONE;
        }
        int rounds = roundsOfChase(guards, corner);
        if (rounds == 0) {
            return LACKING;
        }
        return guards == 0 ? firstTurn(corner) : chase.safest(rowOf(guards), corner);
    }

    /** Where one goes or stays whom nobody chases: all is as good. */
    private int firstTurn(int corner) {
        for (int to = 0; to < corner; to++) {
            if ((streets.nexts[corner] >> to & 1) == 1) {
                return to;
            }
        }
        return corner;
    }

    public int takers() {
        if (town.corners == 0) {
            return 0;
        }
        chase.findPosts(streets);
        return chase.posts == 0 ? LACKING : chase.posts;
    }

    public int post(int k) {
        if (k < 0) {
            return NONE;
        }
        int posts = takers();
        return k < posts ? chase.cornerIn(chase.postRow, posts - 1 - k) : LACKING;
    }

    public int sweep(int n) {
        if (n < 1 || n > MOST_CORNERS) {
            return NONE;
        }
        return sets.nightsToSweep(streets, n);
    }

    public int look(int n) {
        if (n < 1 || n > MOST_CORNERS) {
            return NONE;
        }
        return sets.firstLook(streets, n);
    }

    public int dark() {
        if (town.corners == 0) {
            return 0;
        }
        for (int n = 1; n < MOST_CORNERS; n++) {
            if (sets.nightsToSweep(streets, n) != LACKING) {
                return n;
            }
        }
        return MOST_CORNERS;
    }

    public int could(int thief, int n) {
        if (!isThief(thief) || n < 0 || n > 60) {
            return NONE;
        }
        if (!now.isFree(thief)) {
            return 0;
        }
        playAsItGoes();
        int places = 1 << now.thiefAt[thief];
        for (int hour = 0; hour < n; hour++) {
            hours.walkBeats();
            places |= streets.nextToAny(places);
            for (int guard = 0; guard < town.guards; guard++) {
                places &= ~(1 << played.guardAt[guard]);
            }
        }
        return places;
    }

    public int unseen(int corner) {
        if (!isCorner(corner)) {
            return NONE;
        }
        playAsItGoes();
        int longest = 0;
        int running = 0;
        for (int hour = 0; hour < 60; hour++) {
            hours.walkBeats();
            running = hours.nearest(corner) < 2 ? 0 : running + 1;
            longest = Math.max(longest, running);
        }
        return longest;
    }

    public int round(int corner) {
        return isCorner(corner) ? sets.lanesOfRound(streets, corner) : NONE;
    }

    public int wall(int from, int to) {
        if (!isCorner(from) || !isCorner(to) || from == to) {
            return NONE;
        }
        return town.fewestBars(now.barred, from, to);
    }

    public long drunk(int from, int to, int n, int what) {
        if (!isCorner(from) || !isCorner(to) || n < 0 || n > 4 || what < 0 || what > 1) {
            return NONE;
        }
        long likely = streets.drunkWeight(from, to, n);
        return inLeastTerms(likely, power(Streets.DRUNK_WEIGHT, n), what);
    }

    private static long power(long base, int exponent) {
        long power = 1;
        for (int k = 0; k < exponent; k++) {
            power *= base;
        }
        return power;
    }

    private static long inLeastTerms(long above, long below, int what) {
        long divisor = below;
        long rest = above;
        for (int k = 0; k < 200 && rest != 0; k++) {
            long next = divisor % rest;
            divisor = rest;
            rest = next;
        }
        if (divisor == 0) {
            return NONE;
        }
        return what == 0 ? above / divisor : below / divisor;
    }

    public int match(int what) {
        if (what < 0 || what > 4) {
            return NONE;
        }
        int row = bestMatch();
        int score = matchScore(row);
        if (what == 3) {
            return score / 1000;
        }
        if (what == 4) {
            return 999 - score % 1000;
        }
        if (what >= town.guards) {
            return LACKING;
        }
        int thief = thiefInRow(row, what);
        return thief == MOST_THIEVES ? LACKING : thief;
    }

    /** Rows are numbers with a digit of five kinds a guard; the last kind is no thief. */
    private int bestMatch() {
        int rows = (int) power(MOST_THIEVES + 1, town.guards);
        int best = rows - 1;
        int bestScore = NONE;
        for (int row = 0; row < rows; row++) {
            int score = matchScore(row);
            if (score > bestScore) {
                bestScore = score;
                best = row;
            }
        }
        return best;
    }

    private int thiefInRow(int row, int guard) {
        int behind = (int) power(MOST_THIEVES + 1, town.guards - 1 - guard);
        return behind == 0 ? MOST_THIEVES : row / behind % (MOST_THIEVES + 1);
    }

    /** Thousands count the thieves, the rest is greater the less far they are: one number orders rows. */
    private int matchScore(int row) {
        int matched = 0;
        int many = 0;
        int far = 0;
        for (int guard = 0; guard < town.guards; guard++) {
            int thief = thiefInRow(row, guard);
            if (thief == MOST_THIEVES) {
                continue;
            }
            if (thief >= town.thieves || !now.isFree(thief) || (matched >> thief & 1) == 1) {
                return NONE;
            }
            matched |= 1 << thief;
            many++;
            far += streets.lanesBetween(now.guardAt[guard], now.thiefAt[thief]);
        }
        return many * 1000 + 999 - far;
    }

    public int rests(int one, int other) {
        if (!isThief(one) || !isThief(other) || one == other) {
            return NONE;
        }
        int rests = 0;
        for (int pair = 0; pair < 4; pair++) {
            rests += isRest(one, other, pair) ? 1 : 0;
        }
        return rests;
    }

    public int rest(int one, int other, int k) {
        if (!isThief(one) || !isThief(other) || one == other || k < 0) {
            return NONE;
        }
        int left = k;
        for (int pair = 0; pair < 4; pair++) {
            if (isRest(one, other, pair)) {
                if (left == 0) {
                    return pair / 2 * 10 + pair % 2;
                }
                left--;
            }
        }
        return LACKING;
    }

    /** A pair is twice what the first one does and what the second one does: 0 talks, 1 is mum. */
    private boolean isRest(int one, int other, int pair) {
        int first = pair / 2;
        int second = pair % 2;
        return gain(one, other, first, second) >= gain(one, other, 1 - first, second)
                && gain(other, one, second, first) >= gain(other, one, 1 - second, first);
    }

    private int gain(int self, int mate, int own, int mates) {
        if (own == 0) {
            return mates == 0 ? 3 - now.bold[self] / 4 : 5;
        }
        return mates == 0 ? 0 : 4 + (now.had[self] + now.had[mate]) / 100;
    }

    public long holds(int n, int what) {
        if (n < 0 || n > 6 || what < 0 || what > 1) {
            return NONE;
        }
        return inLeastTerms(power(town.grip, n), power(100, n), what);
    }

    public int see(int hours, int thief, int corner, boolean is) {
        if (hours < 1 || hours > FACT_HOURS || !isThief(thief) || !isCorner(corner)) {
            return NONE;
        }
        return facts.addSight(hours, thief, corner, is);
    }

    public int strike(int fact) {
        return facts.addStrike(fact);
    }

    public boolean known(int n) {
        return facts.knowBy(n);
    }

    public int bolds(int thief) {
        if (!isThief(thief)) {
            return NONE;
        }
        playFromText();
        return facts.boldsOf(thief, hours, town.start, facts.lastHour());
    }

    private void playFromText() {
        otherStreets.build(town, 0, false);
        hours.setUp(town, otherStreets, played, Hours.AS_IT_GOES);
    }

    public int ask(int thief, int what) {
        if (!isThief(thief) || what < 0 || what > 1) {
            return NONE;
        }
        playFromText();
        facts.chooseQuestion(facts.boldsOf(thief, hours, town.start, FACT_HOURS));
        return what == 0 ? facts.askHour : facts.leftAtWorst;
    }

    public int chance(int seed, int n, int thief) {
        if (seed < 0 || n < 1 || n > 99 || !isThief(thief)) {
            return NONE;
        }
        int times = 0;
        long last = seed;
        for (int time = 0; time < 10; time++) {
            played.copyFrom(now);
            played.lastDrawn = last;
            hours.setUp(town, streets, played, Hours.BY_NUMBERS);
            hours.passMany(n);
            last = played.lastDrawn;
            times += played.isFree(thief) ? 0 : 1;
        }
        return times;
    }

    public int tried(int what, int i, int n) {
        if (what < 0 || what > 4 || n < 0 || n > 200 || (what == 2 ? !isGuard(i) : i != 0)) {
            return NONE;
        }
        playAsItGoes();
        switch (what) {
            case 0:
                hours.grips = Hours.ALL_HOLD;
                break;
            case 1:
                hours.grips = Hours.NONE_HOLDS;
                break;
            case 2:
                hours.stayer = i;
                break;
            case 3:
                hours.stirring = false;
                break;
            default:
                otherStreets.build(town, 0, true);
                hours.streets = otherStreets;
        }
        hours.passMany(n);
        return played.hadByAll(town.thieves);
    }

    public int undo() {
        if (deeds.noted == 0) {
            return NONE;
        }
        deeds.takeLatest();
        switch (deeds.kind) {
            case Deeds.SENT:
                now.guardAt[deeds.which] = deeds.earlier;
                break;
            case Deeds.BARRED:
                turnBar(deeds.which);
                break;
            default:
                now.loot[deeds.which] = deeds.earlier;
        }
        return deeds.noted;
    }

    public int keep() {
        image.copyFrom(now);
        imaged = true;
        return now.hour;
    }

    public int back() {
        if (!imaged) {
            return NONE;
        }
        now.copyFrom(image);
        streets.build(town, now.barred, false);
        deeds.clear();
        return now.hour;
    }

    public int count(int what) {
        switch (what) {
            case 0:
                return town.corners;
            case 1:
                return town.lanes;
            case 2:
                return town.guards;
            case 3:
                return town.thieves;
            case 4:
                return town.law.told;
            case 5:
                return now.hour;
            case 6:
                return now.howManyCaught(town.thieves);
            case 7:
                return now.lootOfAll(town.corners);
            case 8:
                return now.hadByAll(town.thieves);
            case 9:
                return Integer.bitCount(now.barred);
            case 10:
                return facts.noted;
            case 11:
                return facts.knownBy();
            case 12:
                return deeds.noted;
            default:
                return NONE;
        }
    }

    private boolean isCorner(int corner) {
        return corner >= 0 && corner < town.corners;
    }

    private boolean isGuard(int guard) {
        return guard >= 0 && guard < town.guards;
    }

    private boolean areGuards(int guards) {
        return guards >= 0 && guards < 1 << town.guards;
    }

    private boolean isThief(int thief) {
        return thief >= 0 && thief < town.thieves;
    }

    private boolean isLane(int lane) {
        return lane >= 0 && lane < town.lanes;
    }

    /** Cuts a text into tokens, one at a time. */
    private static final class Tokens {
        static final int END = 0;
        static final int BAD = 1;
        static final int WORD = 2;
        static final int KEY = 3;
        static final int NUMBER = 4;
        static final int SIGN = 5;

        static final int CORNER = 0;
        static final int LANE = 1;
        static final int STEPS = 2;
        static final int GUARD = 3;
        static final int BEAT = 4;
        static final int THIEF = 5;
        static final int GRIP = 6;
        static final int SEED = 7;
        static final int LAW = 8;
        static final int FIRST_RULE = 9;
        static final int FIRST_NAME = 12;
        static final int NAMES = 7;
        static final int AND = 19;
        static final int OR = 20;
        static final int NOT = 21;
        private static final int KEYS = 22;
        private static final int LETTERS = 6;
        private static final int BEYOND = 1000000;
        /** The words of the language in the order of the numbers above, six letters each. */
        private static final String LINE_WORDS =
                "cornerlane  steps guard beat  thief grip  seed  law   dread take  stir  ";
        private static final String LAW_WORDS = "light far   loot  bold  had   guardshour  and   or    not   ";

        /** Signs are their own bytes; those of two bytes have numbers that no byte has. */
        static final int AT_MOST = 256;
        static final int UNLIKE = 257;
        static final int AT_LEAST = 258;

        private final int[] keys = new int[KEYS];
        private byte[] bytes = new byte[0];
        private int length = 0;
        private int at = 0;
        int kind = END;
        /** A word's letters packed, a language word's number, a number, or a sign. */
        int value = 0;
        int place = 0;

        Tokens() {
            packWords(LINE_WORDS, 0);
            packWords(LAW_WORDS, FIRST_NAME);
        }

        private void packWords(String words, int firstKey) {
            for (int k = 0; k < words.length() && firstKey + k / LETTERS < KEYS; k++) {
                // A blank has none of the five bits, as the document packs names.
                int letter = words.charAt(k) & 31;
                keys[firstKey + k / LETTERS] |= letter << (5 * (LETTERS - 1 - k % LETTERS));
            }
        }

        void start(byte[] text, int textLength) {
            bytes = text;
            length = Math.min(textLength, text.length);
            at = 0;
            advance();
        }

        void advance() {
            while (at < length && (bytes[at] == 32 || bytes[at] == 10)) {
                at++;
            }
            place = at;
            value = 0;
            int first = at < length ? bytes[at] : 0;
            if (at >= length) {
                kind = END;
            } else if (first >= 'a' && first <= 'z') {
                takeWord();
            } else if (first >= '0' && first <= '9') {
                takeNumber();
            } else {
                kind = isSign(first) ? SIGN : BAD;
                takeSign(first);
            }
        }

        private void takeWord() {
            while (at < length && bytes[at] >= 'a' && bytes[at] <= 'z') {
                int behind = LETTERS - 1 - (at - place);
                value |= behind < 0 ? 0 : (bytes[at] - 'a' + 1) << (5 * behind);
                at++;
            }
            kind = at - place > LETTERS ? BAD : WORD;
            for (int key = 0; key < KEYS && kind == WORD; key++) {
                if (keys[key] == value) {
                    kind = KEY;
                    value = key;
                }
            }
        }

        private void takeNumber() {
            kind = NUMBER;
            while (at < length && bytes[at] >= '0' && bytes[at] <= '9') {
                // A number too great for the language stays so, however many digits are behind.
                value = value > BEYOND ? BEYOND : value * 10 + bytes[at] - '0';
                at++;
            }
        }

        private void takeSign(int sign) {
            at++;
            value = sign;
            int behind = at < length ? bytes[at] : 0;
            if (sign == '<' && behind == '=') {
                value = AT_MOST;
                at++;
            } else if (sign == '<' && behind == '>') {
                value = UNLIKE;
                at++;
            } else if (sign == '>' && behind == '=') {
                value = AT_LEAST;
                at++;
            }
        }

        private static boolean isSign(int sign) {
            switch (sign) {
                case ';':
                case '(':
                case ')':
                case '+':
                case '-':
                case '*':
                case '/':
                case '<':
                case '=':
                case '>':
                    return true;
                default:
                    return false;
            }
        }

        boolean isKey(int key) {
            return kind == KEY && value == key;
        }

        boolean isThisSign(int sign) {
            return kind == SIGN && value == sign;
        }

        boolean isName() {
            return kind == KEY && value >= FIRST_NAME && value < FIRST_NAME + NAMES;
        }
    }

    /** Reads a text into a town, up to its first fault. */
    private static final class Reader {
        private static final int UNFIT = 1;
        private static final int TOO_MUCH = 2;
        private static final int TOLD_ALREADY = 3;
        private static final int NOT_TOLD = 4;
        private static final int TO_ITSELF = 5;

        private static final int NO_LEVEL = -1;
        private static final int OR_LEVEL = 0;
        private static final int AND_LEVEL = 1;
        private static final int NOT_LEVEL = 2;
        private static final int COMPARE_LEVEL = 3;
        private static final int SUM_LEVEL = 4;
        private static final int PRODUCT_LEVEL = 5;

        private final Tokens tokens = new Tokens();
        private Town town = new Town();
        /** Signs and brackets of a law whose right side or end is still to come. */
        private final int[] pending = new int[MOST_KNOTS + MOST_OPEN];
        private int pendingMany = 0;
        private int open = 0;
        private boolean sideDue = true;
        private boolean notFits = true;
        int fault = 0;
        int faultPlace = NONE;
        int lines = 0;

        boolean readText(byte[] bytes, int length, Town into) {
            town = into;
            town.clear();
            fault = 0;
            faultPlace = NONE;
            lines = 0;
            tokens.start(bytes, length);
            while (lines < MOST_BYTES && tokens.kind != Tokens.END) {
                if (!readLine() || !passSign(';')) {
                    return false;
                }
                lines++;
            }
            return true;
        }

        private boolean failed(int number) {
            fault = number;
            faultPlace = tokens.place;
            return false;
        }

        private boolean passSign(int sign) {
            if (!tokens.isThisSign(sign)) {
                return failed(UNFIT);
            }
            tokens.advance();
            return true;
        }

        private boolean readLine() {
            if (tokens.kind != Tokens.KEY) {
                return failed(UNFIT);
            }
            switch (tokens.value) {
                case Tokens.CORNER:
                    return readCorner();
                case Tokens.LANE:
                case Tokens.STEPS:
                    return readLane();
                case Tokens.GUARD:
                    return readGuard();
                case Tokens.BEAT:
                    return readBeat();
                case Tokens.THIEF:
                    return readThief();
                case Tokens.GRIP:
                    return readGrip();
                case Tokens.SEED:
                    return readSeed();
                case Tokens.LAW:
                    return readLaw();
                default:
                    return failed(UNFIT);
            }
        }

        /** The word of a line stands at the token: it is too much, if the town is full of its kind. */
        private boolean passLineWord(int many, int most) {
            if (many >= most) {
                return failed(TOO_MUCH);
            }
            tokens.advance();
            return true;
        }

        private int newName(int[] names, int many) {
            int name = tokens.value;
            if (tokens.kind != Tokens.WORD) {
                failed(UNFIT);
                return NONE;
            }
            if (Town.placeOf(name, names, many) != NONE) {
                failed(TOLD_ALREADY);
                return NONE;
            }
            tokens.advance();
            return name;
        }

        /** The number of the one that the token names; the token stays, other faults may be there too. */
        private int toldOne(int[] names, int many) {
            if (tokens.kind != Tokens.WORD) {
                failed(UNFIT);
                return NONE;
            }
            int one = Town.placeOf(tokens.value, names, many);
            if (one == NONE) {
                failed(NOT_TOLD);
            }
            return one;
        }

        private int passCorner() {
            int corner = toldOne(town.cornerNames, town.corners);
            if (corner != NONE) {
                tokens.advance();
            }
            return corner;
        }

        private int passNumber(int most) {
            int number = tokens.value;
            if (tokens.kind != Tokens.NUMBER) {
                failed(UNFIT);
                return NONE;
            }
            if (number > most) {
                failed(TOO_MUCH);
                return NONE;
            }
            tokens.advance();
            return number;
        }

        private boolean readCorner() {
            if (!passLineWord(town.corners, MOST_CORNERS)) {
                return false;
            }
            int name = newName(town.cornerNames, town.corners);
            int light = name == NONE ? NONE : passNumber(9);
            int loot = light == NONE ? NONE : passNumber(999);
            return loot != NONE && town.addCorner(name, light, loot);
        }

        private boolean readLane() {
            boolean isSteps = tokens.value == Tokens.STEPS;
            if (!passLineWord(town.lanes, MOST_LANES)) {
                return false;
            }
            int from = passCorner();
            int to = from == NONE ? NONE : toldOne(town.cornerNames, town.corners);
            if (to == NONE) {
                return false;
            }
            if (town.hasLane(from, to, isSteps)) {
                return failed(TOLD_ALREADY);
            }
            if (from == to) {
                return failed(TO_ITSELF);
            }
            tokens.advance();
            return town.addLane(from, to, isSteps);
        }

        private boolean readGuard() {
            if (!passLineWord(town.guards, MOST_GUARDS)) {
                return false;
            }
            int name = newName(town.guardNames, town.guards);
            int corner = name == NONE ? NONE : passCorner();
            return corner != NONE && town.addGuard(name, corner);
        }

        private boolean readBeat() {
            tokens.advance();
            int guard = toldOne(town.guardNames, town.guards);
            if (guard == NONE) {
                return false;
            }
            if (town.beatLengths[guard] > 0) {
                return failed(TOLD_ALREADY);
            }
            tokens.advance();
            if (tokens.kind != Tokens.WORD) {
                return failed(UNFIT);
            }
            for (int place = 0; place <= MOST_PLACES && tokens.kind == Tokens.WORD; place++) {
                if (place == MOST_PLACES) {
                    return failed(TOO_MUCH);
                }
                int corner = passCorner();
                if (corner == NONE) {
                    return false;
                }
                town.addPlace(guard, corner);
            }
            return true;
        }

        private boolean readThief() {
            if (!passLineWord(town.thieves, MOST_THIEVES)) {
                return false;
            }
            int name = newName(town.thiefNames, town.thieves);
            int corner = name == NONE ? NONE : passCorner();
            int bold = corner == NONE ? NONE : passNumber(9);
            return bold != NONE && town.addThief(name, corner, bold);
        }

        private boolean readGrip() {
            if (town.gripTold) {
                return failed(TOLD_ALREADY);
            }
            tokens.advance();
            int grip = passNumber(100);
            if (grip == NONE) {
                return false;
            }
            town.grip = grip;
            town.gripTold = true;
            return true;
        }

        private boolean readSeed() {
            if (town.seedTold) {
                return failed(TOLD_ALREADY);
            }
            tokens.advance();
            int seed = passNumber(99999);
            if (seed == NONE) {
                return false;
            }
            town.start.lastDrawn = seed;
            town.seedTold = true;
            return true;
        }

        private boolean readLaw() {
            tokens.advance();
            int rule = tokens.kind == Tokens.KEY ? tokens.value - Tokens.FIRST_RULE : NONE;
            if (rule < 0 || rule >= RULES) {
                return failed(UNFIT);
            }
            if (town.law.isTold(rule)) {
                return failed(TOLD_ALREADY);
            }
            tokens.advance();
            town.law.open(rule);
            pendingMany = 0;
            open = 0;
            sideDue = true;
            notFits = true;
            boolean more = true;
            for (int k = 0; k <= MOST_BYTES && more; k++) {
                more = sideDue ? readSide() : readJoint();
            }
            if (fault != 0) {
                return false;
            }
            town.law.close(rule);
            return true;
        }

        private boolean passKnot() {
            if (!town.law.tellKnot()) {
                return failed(TOO_MUCH);
            }
            tokens.advance();
            return true;
        }

        /** Reads the start of a side of a sign: a bracket, a not, or the side itself. */
        private boolean readSide() {
            if (tokens.isThisSign('(')) {
                if (open >= MOST_OPEN) {
                    return failed(TOO_MUCH);
                }
                open++;
                notFits = true;
                hang('(');
                tokens.advance();
                return true;
            }
            if (notFits && tokens.isKey(Tokens.NOT)) {
                hang(Tokens.NOT);
                return passKnot();
            }
            boolean isNumber = tokens.kind == Tokens.NUMBER;
            if (!isNumber && !tokens.isName()) {
                return failed(UNFIT);
            }
            if (isNumber && tokens.value > Law.MOST_NUMBER) {
                return failed(TOO_MUCH);
            }
            town.law.put(isNumber ? tokens.value : Law.FIRST_NAME + tokens.value - Tokens.FIRST_NAME);
            sideDue = false;
            return passKnot();
        }

        /** Reads what stands behind a side; false with no fault: the law ends ahead of this token. */
        private boolean readJoint() {
            if (open > 0 && tokens.isThisSign(')')) {
                settle(OR_LEVEL);
                pendingMany--;
                open--;
                tokens.advance();
                return true;
            }
            int level = tokens.kind == Tokens.SIGN || tokens.kind == Tokens.KEY ? levelOf(tokens.value) : NO_LEVEL;
            if (level == NO_LEVEL || level == NOT_LEVEL) {
                settle(OR_LEVEL);
                return open > 0 && failed(UNFIT);
            }
            if (level == COMPARE_LEVEL) {
                settle(SUM_LEVEL);
                if (pendingMany > 0 && levelOf(pending[pendingMany - 1]) == COMPARE_LEVEL) {
                    return failed(UNFIT);
                }
            }
            settle(level);
            hang(tokens.value);
            sideDue = true;
            notFits = level == OR_LEVEL || level == AND_LEVEL;
            return passKnot();
        }

        private void hang(int sign) {
            if (pendingMany < pending.length) {
                pending[pendingMany] = sign;
                pendingMany++;
            }
        }

        /** Puts the pending signs that bind at least so tightly, back to the last bracket. */
        private void settle(int level) {
            while (pendingMany > 0 && levelOf(pending[pendingMany - 1]) >= level) {
                pendingMany--;
                town.law.put(Law.FIRST_SIGN + pending[pendingMany]);
            }
        }

        private static int levelOf(int sign) {
            switch (sign) {
                case Tokens.OR:
                    return OR_LEVEL;
                case Tokens.AND:
                    return AND_LEVEL;
                case Tokens.NOT:
                    return NOT_LEVEL;
                case '<':
                case '=':
                case '>':
                case Tokens.AT_MOST:
                case Tokens.UNLIKE:
                case Tokens.AT_LEAST:
                    return COMPARE_LEVEL;
                case '+':
                case '-':
                    return SUM_LEVEL;
                case '*':
                case '/':
                    return PRODUCT_LEVEL;
                default:
                    return NO_LEVEL;
            }
        }
    }

    /** The three laws of a text, each a row of knots in which a sign stands behind both its sides. */
    private static final class Law {
        static final long ERROR = Long.MIN_VALUE;
        static final int MOST_NUMBER = 9999;
        static final int FIRST_NAME = 10000;
        static final int FIRST_SIGN = 20000;
        private static final long LIMIT = 1000000000000L;

        /** Knots told so far in the text; a sign is told ahead of its right side, but put behind it. */
        int told = 0;
        private int putSoFar = 0;
        private final int[] knots = new int[MOST_KNOTS];
        private final int[] firsts = new int[RULES];
        private final int[] ends = new int[RULES];
        private final long[] values = new long[MOST_KNOTS];

        void clear() {
            told = 0;
            putSoFar = 0;
            Arrays.fill(firsts, 0);
            Arrays.fill(ends, 0);
        }

        boolean isTold(int rule) {
            return ends[rule] > 0;
        }

        void open(int rule) {
            firsts[rule] = putSoFar;
        }

        void close(int rule) {
            ends[rule] = putSoFar;
        }

        boolean tellKnot() {
            if (told >= MOST_KNOTS) {
                return false;
            }
            told++;
            return true;
        }

        void put(int knot) {
            if (putSoFar < MOST_KNOTS) {
                knots[putSoFar] = knot;
                putSoFar++;
            }
        }

        /** ERROR stands for a law that isn't told, too. */
        long valueOf(int rule, long[] names) {
            int depth = 0;
            for (int k = firsts[rule]; k < ends[rule]; k++) {
                int knot = knots[k];
                if (knot < FIRST_SIGN) {
                    values[depth] = knot < FIRST_NAME ? knot : names[knot - FIRST_NAME];
                    depth++;
                } else if (knot == FIRST_SIGN + Tokens.NOT && depth > 0) {
                    values[depth - 1] = values[depth - 1] == 0 ? 1 : 0;
                } else if (depth > 1) {
                    depth--;
                    values[depth - 1] = joined(knot - FIRST_SIGN, values[depth - 1], values[depth]);
                    if (values[depth - 1] == ERROR) {
                        return ERROR;
                    }
                }
            }
            return depth == 1 ? values[0] : ERROR;
        }

        private static long joined(int sign, long left, long right) {
            switch (sign) {
                case '+':
                    return left + right > LIMIT || left + right < -LIMIT ? ERROR : left + right;
                case '-':
                    return left - right > LIMIT || left - right < -LIMIT ? ERROR : left - right;
                case '*':
                    // Two sides within the limit may pass a long's end: the product is tried as a quotient.
                    if (right != 0 && LIMIT / (right < 0 ? -right : right) < (left < 0 ? -left : left)) {
                        return ERROR;
                    }
                    return left * right;
                case '/':
                    return right == 0 ? ERROR : left / right;
                case '<':
                    return left < right ? 1 : 0;
                case Tokens.AT_MOST:
                    return left <= right ? 1 : 0;
                case '=':
                    return left == right ? 1 : 0;
                case Tokens.UNLIKE:
                    return left != right ? 1 : 0;
                case Tokens.AT_LEAST:
                    return left >= right ? 1 : 0;
                case '>':
                    return left > right ? 1 : 0;
                case Tokens.AND:
                    return left != 0 && right != 0 ? 1 : 0;
                case Tokens.OR:
                    return left != 0 || right != 0 ? 1 : 0;
                default:
                    return ERROR;
            }
        }
    }

    /** What a text tells, and how the night starts by it. */
    private static final class Town {
        int corners = 0;
        final int[] cornerNames = new int[MOST_CORNERS];
        final int[] lights = new int[MOST_CORNERS];
        int lanes = 0;
        final int[] laneFrom = new int[MOST_LANES];
        final int[] laneTo = new int[MOST_LANES];
        /** The lanes that lead one way only, as bits. */
        int steps = 0;
        int guards = 0;
        final int[] guardNames = new int[MOST_GUARDS];
        final int[] beats = new int[MOST_GUARDS * MOST_PLACES];
        final int[] beatLengths = new int[MOST_GUARDS];
        int thieves = 0;
        final int[] thiefNames = new int[MOST_THIEVES];
        int grip = 100;
        boolean gripTold = false;
        boolean seedTold = false;
        final Law law = new Law();
        final Night start = new Night();

        void clear() {
            corners = 0;
            lanes = 0;
            steps = 0;
            guards = 0;
            Arrays.fill(beatLengths, 0);
            thieves = 0;
            grip = 100;
            gripTold = false;
            seedTold = false;
            law.clear();
            start.clear();
        }

        static int placeOf(int name, int[] names, int many) {
            for (int k = 0; k < many && k < names.length; k++) {
                if (names[k] == name) {
                    return k;
                }
            }
            return NONE;
        }

        boolean addCorner(int name, int light, int loot) {
            if (corners >= MOST_CORNERS) {
                return false;
            }
            cornerNames[corners] = name;
            lights[corners] = light;
            start.loot[corners] = loot;
            corners++;
            return true;
        }

        boolean hasLane(int from, int to, boolean isSteps) {
            for (int lane = 0; lane < lanes; lane++) {
                boolean alike = isSteps == isOneWay(lane);
                if (alike && laneFrom[lane] == from && laneTo[lane] == to) {
                    return true;
                }
                if (alike && !isSteps && laneFrom[lane] == to && laneTo[lane] == from) {
                    return true;
                }
            }
            return false;
        }

        boolean isOneWay(int lane) {
            return (steps >> lane & 1) == 1;
        }

        boolean addLane(int from, int to, boolean isSteps) {
            if (lanes >= MOST_LANES) {
                return false;
            }
            laneFrom[lanes] = from;
            laneTo[lanes] = to;
            steps |= isSteps ? 1 << lanes : 0;
            lanes++;
            return true;
        }

        boolean addGuard(int name, int corner) {
            if (guards >= MOST_GUARDS) {
                return false;
            }
            guardNames[guards] = name;
            start.guardAt[guards] = corner;
            guards++;
            return true;
        }

        void addPlace(int guard, int corner) {
            if (beatLengths[guard] < MOST_PLACES) {
                beats[guard * MOST_PLACES + beatLengths[guard]] = corner;
                beatLengths[guard]++;
            }
        }

        boolean addThief(int name, int corner, int bold) {
            if (thieves >= MOST_THIEVES) {
                return false;
            }
            thiefNames[thieves] = name;
            start.thiefAt[thieves] = corner;
            start.bold[thieves] = bold;
            thieves++;
            return true;
        }

        /** Every set of corners that holds the first and not the other is a wall; the thinnest one counts. */
        int fewestBars(int barred, int from, int to) {
            int fewest = MOST_LANES;
            for (int set = 0; set < 1 << corners; set++) {
                if ((set >> from & 1) == 1 && (set >> to & 1) == 0) {
                    fewest = Math.min(fewest, lanesOutOf(set, barred));
                }
            }
            return fewest;
        }

        private int lanesOutOf(int set, int barred) {
            int out = 0;
            for (int lane = 0; lane < lanes; lane++) {
                boolean holdsFrom = (set >> laneFrom[lane] & 1) == 1;
                boolean holdsTo = (set >> laneTo[lane] & 1) == 1;
                boolean leadsOut = holdsFrom && !holdsTo || holdsTo && !holdsFrom && !isOneWay(lane);
                out += leadsOut && (barred >> lane & 1) == 0 ? 1 : 0;
            }
            return out;
        }
    }

    /** All that changes by hours and by calls. */
    private static final class Night {
        int hour = 0;
        /** The last number before it was divided: the next one is made of this. */
        long lastDrawn = 0;
        int barred = 0;
        final int[] loot = new int[MOST_CORNERS];
        final int[] guardAt = new int[MOST_GUARDS];
        final int[] aim = new int[MOST_GUARDS];
        final int[] catches = new int[MOST_GUARDS];
        final int[] thiefAt = new int[MOST_THIEVES];
        final int[] bold = new int[MOST_THIEVES];
        final int[] had = new int[MOST_THIEVES];
        final int[] caughtBy = new int[MOST_THIEVES];

        Night() {
            Arrays.fill(caughtBy, FREE);
        }

        void clear() {
            hour = 0;
            lastDrawn = 0;
            barred = 0;
            Arrays.fill(loot, 0);
            Arrays.fill(guardAt, 0);
            Arrays.fill(aim, 0);
            Arrays.fill(catches, 0);
            Arrays.fill(thiefAt, 0);
            Arrays.fill(bold, 0);
            Arrays.fill(had, 0);
            Arrays.fill(caughtBy, FREE);
        }

        void copyFrom(Night other) {
            hour = other.hour;
            lastDrawn = other.lastDrawn;
            barred = other.barred;
            System.arraycopy(other.loot, 0, loot, 0, MOST_CORNERS);
            System.arraycopy(other.guardAt, 0, guardAt, 0, MOST_GUARDS);
            System.arraycopy(other.aim, 0, aim, 0, MOST_GUARDS);
            System.arraycopy(other.catches, 0, catches, 0, MOST_GUARDS);
            System.arraycopy(other.thiefAt, 0, thiefAt, 0, MOST_THIEVES);
            System.arraycopy(other.bold, 0, bold, 0, MOST_THIEVES);
            System.arraycopy(other.had, 0, had, 0, MOST_THIEVES);
            System.arraycopy(other.caughtBy, 0, caughtBy, 0, MOST_THIEVES);
        }

        boolean isFree(int thief) {
            return caughtBy[thief] == FREE;
        }

        int howManyCaught(int thieves) {
            int many = 0;
            for (int thief = 0; thief < thieves; thief++) {
                many += isFree(thief) ? 0 : 1;
            }
            return many;
        }

        int lootOfAll(int corners) {
            int sum = 0;
            for (int corner = 0; corner < corners; corner++) {
                sum += loot[corner];
            }
            return sum;
        }

        int hadByAll(int thieves) {
            int sum = 0;
            for (int thief = 0; thief < thieves; thief++) {
                sum += had[thief];
            }
            return sum;
        }
    }

    /** Which corners are next to which, and how far, while certain lanes are barred. */
    private static final class Streets {
        /** A multiple of every number of ways that a drunk may have, so that shares stay whole. */
        static final long DRUNK_WEIGHT = 2520;

        int corners = 0;
        final int[] nexts = new int[MOST_CORNERS];
        private final int[] fars = new int[MOST_CORNERS * MOST_CORNERS];
        private final long[] weights = new long[MOST_CORNERS];
        private final long[] earlierWeights = new long[MOST_CORNERS];

        /** Both ways: steps lead back too, and bars don't matter. */
        void build(Town town, int barred, boolean bothWays) {
            corners = town.corners;
            Arrays.fill(nexts, 0);
            for (int lane = 0; lane < town.lanes; lane++) {
                if (bothWays || (barred >> lane & 1) == 0) {
                    nexts[town.laneFrom[lane]] |= 1 << town.laneTo[lane];
                    boolean leadsBack = bothWays || !town.isOneWay(lane);
                    nexts[town.laneTo[lane]] |= leadsBack ? 1 << town.laneFrom[lane] : 0;
                }
            }
            for (int from = 0; from < corners; from++) {
                measureFrom(from);
            }
        }

        private void measureFrom(int from) {
            int row = from * MOST_CORNERS;
            for (int corner = 0; corner < corners; corner++) {
                fars[row + corner] = NO_WAY;
            }
            int seen = 0;
            int edge = 1 << from;
            for (int lanes = 0; lanes < MOST_CORNERS && edge != 0; lanes++) {
                for (int corner = 0; corner < corners; corner++) {
                    fars[row + corner] = (edge >> corner & 1) == 1 ? lanes : fars[row + corner];
                }
                seen |= edge;
                edge = nextToAny(edge) & ~seen;
            }
        }

        int nextToAny(int set) {
            int next = 0;
            for (int corner = 0; corner < corners; corner++) {
                next |= (set >> corner & 1) == 1 ? nexts[corner] : 0;
            }
            return next;
        }

        int lanesBetween(int from, int to) {
            return fars[from * MOST_CORNERS + to];
        }

        /** The first corner next to the one from which the other one is less far; NONE, if none is. */
        int onward(int from, int to) {
            for (int corner = 0; corner < corners; corner++) {
                if ((nexts[from] >> corner & 1) == 1 && lanesBetween(corner, to) < lanesBetween(from, to)) {
                    return corner;
                }
            }
            return NONE;
        }

        int reached(int from) {
            int bits = 0;
            for (int corner = 0; corner < corners; corner++) {
                bits |= lanesBetween(from, corner) < NO_WAY ? 1 << corner : 0;
            }
            return bits;
        }

        /** A part is counted at its first corner. */
        int howManyParts() {
            int parts = 0;
            for (int corner = 0; corner < corners; corner++) {
                boolean isFirst = true;
                for (int earlier = 0; earlier < corner; earlier++) {
                    isFirst &= lanesBetween(corner, earlier) == NO_WAY || lanesBetween(earlier, corner) == NO_WAY;
                }
                parts += isFirst ? 1 : 0;
            }
            return parts;
        }

        /** How likely, where the n-th power of DRUNK_WEIGHT is certain. */
        long drunkWeight(int from, int to, int n) {
            Arrays.fill(weights, 0);
            weights[from] = 1;
            for (int k = 0; k < n; k++) {
                System.arraycopy(weights, 0, earlierWeights, 0, MOST_CORNERS);
                Arrays.fill(weights, 0);
                for (int corner = 0; corner < corners; corner++) {
                    shareOut(corner);
                }
            }
            return weights[to];
        }

        private void shareOut(int corner) {
            int ways = nexts[corner] | 1 << corner;
            int many = Integer.bitCount(ways);
            if (many == 0) {
                return;
            }
            long share = earlierWeights[corner] * (DRUNK_WEIGHT / many);
            for (int to = 0; to < corners; to++) {
                weights[to] += (ways >> to & 1) == 1 ? share : 0;
            }
        }
    }

    /** Lets hours go by over a night. */
    private static final class Hours {
        static final int BY_NUMBERS = 0;
        static final int AS_IT_GOES = 1;
        static final int ALL_HOLD = 2;
        static final int NONE_HOLDS = 3;

        /** These are empty ones until setUp has named those that are meant. */
        private Town town = new Town();
        Streets streets = new Streets();
        private Night night = new Night();
        int grips = AS_IT_GOES;
        /** The guard who doesn't walk his beat, if one is to stay. */
        int stayer = NONE;
        boolean stirring = true;
        private final long[] names = new long[Tokens.NAMES];

        void setUp(Town newTown, Streets newStreets, Night newNight, int newGrips) {
            town = newTown;
            streets = newStreets;
            night = newNight;
            grips = newGrips;
            stayer = NONE;
            stirring = true;
        }

        /** Starts again from another night, by another bold of one thief. */
        void restart(Night from, int thief, int bold) {
            night.copyFrom(from);
            night.bold[thief] = bold;
        }

        int placeOfThief(int thief) {
            return night.thiefAt[thief];
        }

        int hadOfThief(int thief) {
            return night.had[thief];
        }

        void passMany(int n) {
            for (int k = 0; k < n; k++) {
                pass();
            }
        }

        void pass() {
            walkBeats();
            for (int thief = 0; thief < town.thieves; thief++) {
                if (night.isFree(thief) && stirs(thief)) {
                    goWhereDreadIsLeast(thief);
                }
            }
            for (int guard = 0; guard < town.guards; guard++) {
                catchBy(guard);
            }
            for (int thief = 0; thief < town.thieves; thief++) {
                if (night.isFree(thief)) {
                    takeLoot(thief);
                }
            }
            night.hour++;
        }

        void walkBeats() {
            for (int guard = 0; guard < town.guards; guard++) {
                if (town.beatLengths[guard] > 0 && guard != stayer) {
                    walkBeat(guard);
                }
            }
        }

        private void walkBeat(int guard) {
            int at = night.guardAt[guard];
            if (town.beats[guard * MOST_PLACES + night.aim[guard]] == at) {
                boolean isLast = night.aim[guard] + 1 >= town.beatLengths[guard];
                night.aim[guard] = isLast ? 0 : night.aim[guard] + 1;
            }
            int onward = streets.onward(at, town.beats[guard * MOST_PLACES + night.aim[guard]]);
            night.guardAt[guard] = onward == NONE ? at : onward;
        }

        /** ERROR isn't 0: as the document has it, one stirs without the law and with an error too. */
        private boolean stirs(int thief) {
            return stirring && lawValue(STIR, thief, night.thiefAt[thief]) != 0;
        }

        private void goWhereDreadIsLeast(int thief) {
            int own = night.thiefAt[thief];
            int best = own;
            long least = dread(thief, own);
            for (int corner = 0; corner < town.corners; corner++) {
                if ((streets.nexts[own] >> corner & 1) == 1) {
                    long dread = dread(thief, corner);
                    best = dread < least ? corner : best;
                    least = Math.min(dread, least);
                }
            }
            night.thiefAt[thief] = best;
        }

        private long dread(int thief, int corner) {
            long value = lawValue(DREAD, thief, corner);
            return value == Law.ERROR ? town.lights[corner] - 2L * nearest(corner) : value;
        }

        private void catchBy(int guard) {
            for (int thief = 0; thief < town.thieves; thief++) {
                boolean meet = night.isFree(thief) && night.thiefAt[thief] == night.guardAt[guard];
                if (meet && gripHolds()) {
                    night.caughtBy[thief] = guard;
                    night.catches[guard]++;
                }
            }
        }

        private boolean gripHolds() {
            switch (grips) {
                case AS_IT_GOES:
                    return town.grip >= 50;
                case ALL_HOLD:
                    return true;
                case NONE_HOLDS:
                    return false;
                default:
                    return town.grip == 100 || town.grip > 0 && draw() % 100 < town.grip;
            }
        }

        private long draw() {
            night.lastDrawn = (night.lastDrawn * 1103515245L + 12345L) & 0x7fffffffL;
            return night.lastDrawn / 65536L;
        }

        private void takeLoot(int thief) {
            int corner = night.thiefAt[thief];
            long value = lawValue(TAKE, thief, corner);
            long wanted = value == Law.ERROR ? night.bold[thief] + 1 : Math.max(0, Math.min(99, value));
            int taken = (int) Math.min(wanted, night.loot[corner]);
            night.loot[corner] -= taken;
            night.had[thief] += taken;
        }

        long lawValue(int rule, int thief, int corner) {
            if (!town.law.isTold(rule)) {
                return Law.ERROR;
            }
            int guardsThere = 0;
            for (int guard = 0; guard < town.guards; guard++) {
                guardsThere += night.guardAt[guard] == corner ? 1 : 0;
            }
            names[0] = town.lights[corner];
            names[1] = nearest(corner);
            names[2] = night.loot[corner];
            names[3] = night.bold[thief];
            names[4] = night.had[thief];
            names[5] = guardsThere;
            names[6] = night.hour;
            return town.law.valueOf(rule, names);
        }

        /** How far the corner is from the guard from whom it is least far. */
        int nearest(int corner) {
            int least = NO_WAY;
            for (int guard = 0; guard < town.guards; guard++) {
                least = Math.min(least, streets.lanesBetween(night.guardAt[guard], corner));
            }
            return least;
        }
    }

    /** The chase of one who sees all, solved from its end back for all rows of so many guards at once. */
    private static final class Chase {
        static final int NEVER = Integer.MAX_VALUE;
        private static final int ROWS = MOST_CORNERS * MOST_CORNERS * MOST_CORNERS;

        private int corners = 0;
        /** Where one may be behind a turn: his corner and those next to it. */
        private final int[] turns = new int[MOST_CORNERS];
        /** The number of guards for which the rows below are solved; 0: they are not. */
        private int guards = 0;
        private int rows = 0;
        /** For each row of guards: where they are. */
        private final int[] held = new int[ROWS];
        /** For each row of guards, their turn being next: where one is taken by the round that is solved. */
        private final int[] lost = new int[ROWS];
        private final int[] behindTurn = new int[ROWS];
        private final int[] spread = new int[ROWS];
        private final int[] rounds = new int[ROWS * MOST_CORNERS];
        private boolean postsFound = false;
        int posts = 0;
        int postRow = 0;

        /** What was solved stays good as long as the same corners are next to each other. */
        private void fitTo(Streets streets) {
            boolean fits = corners == streets.corners;
            for (int corner = 0; corner < MOST_CORNERS; corner++) {
                int turn = streets.nexts[corner] | 1 << corner;
                fits &= turns[corner] == turn;
                turns[corner] = turn;
            }
            corners = streets.corners;
            if (!fits) {
                guards = 0;
                postsFound = false;
            }
        }

        void solve(Streets streets, int many) {
            fitTo(streets);
            if (guards == many || corners < 1) {
                return;
            }
            guards = many;
            layOut();
            boolean more = true;
            for (int round = 1; round <= ROWS * MOST_CORNERS && more; round++) {
                more = solveRound(round);
            }
        }

        private void layOut() {
            rows = 1;
            held[0] = 0;
            for (int guard = 0; guard < guards && guard < MOST_GUARDS; guard++) {
                // Row k of the longer rows is row k / corners of the shorter ones with one more guard.
                for (int row = rows * corners - 1; row >= 0; row--) {
                    held[row] = held[row / corners] | 1 << row % corners;
                }
                rows *= corners;
            }
            for (int k = 0; k < rows * corners; k++) {
                rounds[k] = NEVER;
            }
            for (int row = 0; row < rows; row++) {
                lost[row] = 0;
                noteLost(row, held[row], 0);
            }
        }

        private boolean solveRound(int round) {
            for (int row = 0; row < rows; row++) {
                behindTurn[row] = lostOnTurn(row);
            }
            int unit = 1;
            for (int guard = 0; guard < guards; guard++) {
                spreadOneGuard(unit);
                unit *= corners;
            }
            boolean more = false;
            for (int row = 0; row < rows; row++) {
                int fresh = behindTurn[row] & ~lost[row];
                if (fresh != 0) {
                    more = true;
                    noteLost(row, fresh, round);
                }
            }
            return more;
        }

        /** Where one is taken though it is his turn: wherever he goes from there, he is lost. */
        private int lostOnTurn(int row) {
            int bits = held[row];
            for (int corner = 0; corner < corners; corner++) {
                bits |= (turns[corner] & ~lost[row]) == 0 ? 1 << corner : 0;
            }
            return bits;
        }

        /** Guards go at once, but none hinders another: so it may be worked out guard by guard. */
        private void spreadOneGuard(int unit) {
            if (unit < 1 || corners < 1) {
                return;
            }
            for (int row = 0; row < rows; row++) {
                int at = row / unit % corners;
                int bits = 0;
                for (int to = 0; to < corners; to++) {
                    bits |= (turns[at] >> to & 1) == 1 ? behindTurn[row + (to - at) * unit] : 0;
                }
                spread[row] = bits;
            }
            System.arraycopy(spread, 0, behindTurn, 0, rows);
        }

        private void noteLost(int row, int fresh, int round) {
            lost[row] |= fresh;
            for (int corner = 0; corner < corners; corner++) {
                if ((fresh >> corner & 1) == 1) {
                    rounds[row * corners + corner] = round;
                }
            }
        }

        int roundsFrom(int row, int corner) {
            return rounds[row * corners + corner];
        }

        /** The corner in a row that has so many corners behind it. */
        int cornerIn(int row, int behind) {
            if (corners < 1) {
                return NONE;
            }
            int corner = row;
            for (int k = 0; k < behind; k++) {
                corner /= corners;
            }
            return corner % corners;
        }

        /** The first row to which the guards may go so that he is taken as soon as may be. */
        int firstRow(int from, int corner) {
            int soonest = roundsFrom(from, corner) - 1;
            for (int row = 0; row < rows; row++) {
                if (isTurn(from, row) && roundsOnTurn(row, corner) == soonest) {
                    return row;
                }
            }
            return from;
        }

        private boolean isTurn(int from, int to) {
            for (int behind = 0; behind < guards; behind++) {
                if ((turns[cornerIn(from, behind)] >> cornerIn(to, behind) & 1) == 0) {
                    return false;
                }
            }
            return true;
        }

        private int roundsOnTurn(int row, int corner) {
            return roundsFrom(row, corner) == 0 ? 0 : roundsFrom(row, safest(row, corner));
        }

        /** Where one goes from the corner to be taken as late as may be. */
        int safest(int row, int corner) {
            int best = corner;
            int latest = NONE;
            for (int to = 0; to < corners; to++) {
                if ((turns[corner] >> to & 1) == 1 && roundsFrom(row, to) > latest) {
                    latest = roundsFrom(row, to);
                    best = to;
                }
            }
            return best;
        }

        void findPosts(Streets streets) {
            fitTo(streets);
            if (postsFound) {
                return;
            }
            postsFound = true;
            posts = 0;
            for (int many = 1; many <= MOST_GUARDS && posts == 0; many++) {
                solve(streets, many);
                postRow = firstPostRow();
                posts = postRow == NONE ? 0 : many;
            }
        }

        /** Any order of the same corners does as well, and of these the first row has them rising. */
        private int firstPostRow() {
            for (int row = 0; row < rows; row++) {
                if (lost[row] == (1 << corners) - 1) {
                    return row;
                }
            }
            return NONE;
        }
    }

    /** Questions that are answered by going through sets of corners. */
    private static final class Sets {
        private static final int UNSOLVED = NONE;
        private static final int MOST_LANES_OF_ROUND = MOST_CORNERS * MOST_CORNERS;

        private final int[] one = new int[SETS];
        private final int[] two = new int[SETS];
        private final int[] three = new int[SETS];

        int nightsToSweep(Streets streets, int n) {
            int all = (1 << streets.corners) - 1;
            int[] gone = one;
            int[] nights = two;
            letGo(streets, gone);
            Arrays.fill(nights, UNSOLVED);
            nights[0] = 0;
            boolean more = true;
            for (int night = 1; night <= SETS && more && nights[all] == UNSOLVED; night++) {
                more = false;
                for (int rest = 0; rest <= all; rest++) {
                    if (nights[gone[rest]] == night - 1) {
                        more |= solveAround(rest, all, n, night);
                    }
                }
            }
            return nights[all] == UNSOLVED ? LACKING : nights[all];
        }

        /** For each set of corners where one may be unseen: where he may be on the next night. */
        private static void letGo(Streets streets, int[] gone) {
            gone[0] = 0;
            for (int corner = 0; corner < streets.corners; corner++) {
                int next = streets.nexts[corner] == 0 ? 1 << corner : streets.nexts[corner];
                for (int set = 0; set < 1 << corner; set++) {
                    gone[set | 1 << corner] = gone[set] | next;
                }
            }
        }

        /** All sets from which looking into n corners at most leaves the rest are solved by this night. */
        private boolean solveAround(int rest, int all, int n, int night) {
            boolean more = false;
            int others = all & ~rest;
            for (int looked = others; looked >= 0; looked = looked == 0 ? NONE : (looked - 1) & others) {
                if (two[rest | looked] == UNSOLVED && Integer.bitCount(looked) <= n) {
                    two[rest | looked] = night;
                    more = true;
                }
            }
            return more;
        }

        int firstLook(Streets streets, int n) {
            int nights = nightsToSweep(streets, n);
            int all = (1 << streets.corners) - 1;
            if (nights == LACKING) {
                return LACKING;
            }
            for (int looked = 0; looked <= all; looked++) {
                if (Integer.bitCount(looked) <= n && two[one[all & ~looked]] == nights - 1) {
                    return looked;
                }
            }
            return 0;
        }

        int lanesOfRound(Streets streets, int corner) {
            int all = (1 << streets.corners) - 1;
            int[] been = one;
            int[] here = two;
            int[] then = three;
            Arrays.fill(been, 0);
            Arrays.fill(here, 0);
            been[1 << corner] = 1 << corner;
            here[1 << corner] = 1 << corner;
            for (int lanes = 0; lanes <= MOST_LANES_OF_ROUND; lanes++) {
                if (here[all] != 0) {
                    return lanes;
                }
                Arrays.fill(then, 0);
                for (int set = 0; set <= all; set++) {
                    if (here[set] != 0) {
                        goOn(streets, set, here[set], then);
                    }
                }
                for (int set = 0; set <= all; set++) {
                    then[set] &= ~been[set];
                    been[set] |= then[set];
                }
                int[] swapped = here;
                here = then;
                then = swapped;
            }
            return LACKING;
        }

        /** One lane on from each corner of the bits, by one who has been at all corners of the set. */
        private static void goOn(Streets streets, int set, int corners, int[] then) {
            int nexts = streets.nextToAny(corners);
            for (int corner = 0; corner < streets.corners; corner++) {
                if ((nexts >> corner & 1) == 1) {
                    then[set | 1 << corner] |= 1 << corner;
                }
            }
        }
    }

    /** What was seen and what was struck, and how bold one is by that. */
    private static final class Facts {
        private static final int ALL = -1;
        private static final int NOTHING = -1;

        int noted = 0;
        private int known = ALL;
        private final int[] hourOf = new int[MOST_FACTS];
        private final int[] thiefOf = new int[MOST_FACTS];
        private final int[] cornerOf = new int[MOST_FACTS];
        private final boolean[] wasThere = new boolean[MOST_FACTS];
        private final int[] strikes = new int[MOST_FACTS];
        /** What one had, for each bold a row of hours. */
        private final int[] hads = new int[BOLD_KINDS * (FACT_HOURS + 1)];
        int askHour = 1;
        int leftAtWorst = 0;

        void clear() {
            noted = 0;
            known = ALL;
        }

        int knownBy() {
            return known == ALL ? noted : known;
        }

        boolean knowBy(int n) {
            if (n < ALL || n > noted) {
                return false;
            }
            known = n;
            return true;
        }

        int addSight(int hour, int thief, int corner, boolean is) {
            if (noted >= MOST_FACTS) {
                return NONE;
            }
            hourOf[noted] = hour;
            thiefOf[noted] = thief;
            cornerOf[noted] = corner;
            wasThere[noted] = is;
            strikes[noted] = NOTHING;
            noted++;
            return noted - 1;
        }

        int addStrike(int fact) {
            if (fact < 0 || fact >= noted || noted >= MOST_FACTS) {
                return NONE;
            }
            strikes[noted] = fact;
            noted++;
            return noted - 1;
        }

        /** The sights that stand, as bits: from the last fact on, as only later ones strike. */
        private int standing() {
            int struck = 0;
            int sights = 0;
            for (int fact = knownBy() - 1; fact >= 0; fact--) {
                if ((struck >> fact & 1) == 1) {
                    continue;
                }
                if (strikes[fact] == NOTHING) {
                    sights |= 1 << fact;
                } else {
                    struck |= 1 << strikes[fact];
                }
            }
            return sights;
        }

        /** The bolds by which all that is known is so; what one had until that hour is noted on the way. */
        int boldsOf(int thief, Hours hours, Night start, int until) {
            int sights = standing();
            int bolds = 0;
            for (int bold = 0; bold < BOLD_KINDS; bold++) {
                hours.restart(start, thief, bold);
                boolean fits = true;
                for (int hour = 1; hour <= until && hour <= FACT_HOURS && fits; hour++) {
                    hours.pass();
                    hads[bold * (FACT_HOURS + 1) + hour] = hours.hadOfThief(thief);
                    fits = areSo(sights, hour, hours);
                }
                bolds |= fits ? 1 << bold : 0;
            }
            return bolds;
        }

        int lastHour() {
            int last = 0;
            for (int fact = 0; fact < noted; fact++) {
                last = strikes[fact] == NOTHING ? Math.max(last, hourOf[fact]) : last;
            }
            return last;
        }

        /** Whether the sights of this hour are as it went. */
        private boolean areSo(int sights, int hour, Hours hours) {
            for (int fact = 0; fact < noted; fact++) {
                boolean isOfHour = (sights >> fact & 1) == 1 && hourOf[fact] == hour;
                if (isOfHour && (hours.placeOfThief(thiefOf[fact]) == cornerOf[fact]) != wasThere[fact]) {
                    return false;
                }
            }
            return true;
        }

        /** The best hour to ask how much one had, whose bolds have just been found until the last hour. */
        void chooseQuestion(int bolds) {
            askHour = 1;
            leftAtWorst = worstLeft(1, bolds);
            for (int hour = 2; hour <= FACT_HOURS; hour++) {
                int left = worstLeft(hour, bolds);
                askHour = left < leftAtWorst ? hour : askHour;
                leftAtWorst = Math.min(left, leftAtWorst);
            }
        }

        private int worstLeft(int hour, int bolds) {
            int worst = 0;
            for (int bold = 0; bold < BOLD_KINDS; bold++) {
                int alike = 0;
                for (int other = 0; other < BOLD_KINDS; other++) {
                    boolean both = (bolds >> bold & 1) == 1 && (bolds >> other & 1) == 1;
                    alike += both && hadIn(bold, hour) == hadIn(other, hour) ? 1 : 0;
                }
                worst = Math.max(worst, alike);
            }
            return worst;
        }

        private int hadIn(int bold, int hour) {
            return hads[bold * (FACT_HOURS + 1) + hour];
        }
    }

    /** What was done by call and can be undone. */
    private static final class Deeds {
        static final int SENT = 0;
        static final int BARRED = 1;
        static final int DROPPED = 2;

        int noted = 0;
        private final int[] kinds = new int[MOST_DEEDS];
        private final int[] whiches = new int[MOST_DEEDS];
        private final int[] earliers = new int[MOST_DEEDS];
        /** The deed that was taken last: its kind, whom it was done to, and what had been there. */
        int kind = SENT;
        int which = 0;
        int earlier = 0;

        void clear() {
            noted = 0;
        }

        void note(int newKind, int newWhich, int newEarlier) {
            if (noted >= MOST_DEEDS) {
                forgetFirst();
            }
            kinds[noted] = newKind;
            whiches[noted] = newWhich;
            earliers[noted] = newEarlier;
            noted++;
        }

        private void forgetFirst() {
            noted = MOST_DEEDS - 1;
            System.arraycopy(kinds, 1, kinds, 0, noted);
            System.arraycopy(whiches, 1, whiches, 0, noted);
            System.arraycopy(earliers, 1, earliers, 0, noted);
        }

        void takeLatest() {
            if (noted > 0) {
                noted--;
                kind = kinds[noted];
                which = whiches[noted];
                earlier = earliers[noted];
            }
        }
    }
}
