/** Towns that several tests ask about. */
final class Towns {
    /** Laws, beats, steps, a lane and steps of the same two: a bit of everything. */
    static final String BUSY = "corner a 1 50;corner b 5 10;corner c 2 0;corner d 9 7;"
            + "lane a b;lane b c;lane c d;steps d a;lane a c;guard g a;beat g a c;guard h d;beat h d b b;"
            + "thief t d 2;thief u b 0;thief v a 9;grip 40;seed 9;"
            + "law dread light-far*bold+had/9;law take bold+loot/20;law stir hour<>4;";

    /** As many of all as there may be. */
    static final String FULL = corners(10).replace("0 0", "4 90")
            + lanes("ab bc cd de ef fg gh hi ij ja ac bd ce df eg fh gi hj ia jb")
            + "guard x a;guard y d;guard z g;beat x a c e g i b d f;beat y b d;beat z a j;"
            + "thief s b 1;thief t e 2;thief u h 3;thief v j 4;grip 30;seed 99999;law dread light-far*3+loot/9;";

    private static final int BLANKS = 0x20202020;

    private Towns() {
    }

    /** So many corners a, b, .. without light and loot. */
    static String corners(int many) {
        StringBuilder text = new StringBuilder();
        for (int k = 0; k < many; k++) {
            text.append("corner ").append((char) ('a' + k)).append(" 0 0;");
        }
        return text.toString();
    }

    /** Lanes told by pairs of letters. */
    static String lanes(String pairs) {
        return joined("lane", pairs);
    }

    /** Steps told by pairs of letters. */
    static String steps(String pairs) {
        return joined("steps", pairs);
    }

    private static String joined(String word, String pairs) {
        StringBuilder text = new StringBuilder();
        for (String pair : pairs.split(" ")) {
            text.append(word).append(' ').append(pair.charAt(0)).append(' ').append(pair.charAt(1)).append(';');
        }
        return text.toString();
    }

    /** So many corners in a row, from each a lane to the next. */
    static String path(int many) {
        return corners(many) + (many < 2 ? "" : lanes("ab bc cd de ef fg gh hi ij".substring(0, 3 * many - 4)));
    }

    /** What an expression of a law is worth to a thief who is alone in the dark. */
    static long worth(String expression) {
        return Told.of("corner a 0 0;thief t a 0;law take " + expression + ";").law(1, 0, 0);
    }

    static ThiefTakers empty() {
        return new ThiefTakers();
    }

    /** In the middle of a night: hours, facts, an image, a fault, deeds that can be undone, bytes on the tape. */
    static ThiefTakers busy() {
        return inTheMiddle(Told.of(BUSY));
    }

    static ThiefTakers full() {
        return inTheMiddle(Told.of(FULL));
    }

    private static ThiefTakers inTheMiddle(ThiefTakers x) {
        x.go(2);
        x.bar(3);
        x.see(1, 0, 0, true);
        x.see(2, 2, 2, true);
        x.strike(0);
        x.known(2);
        x.keep();
        x.go(1);
        x.drop(1, 30);
        x.bar(0);
        x.send(0, 2);
        x.send(1, 2);
        Told.tell(x, "corner ?");
        // "corner z 1 2;" and blanks
        x.feed(0x636f726e, 0x6572207a, 0x20312032, 0x3b202020, BLANKS);
        return x;
    }
}
