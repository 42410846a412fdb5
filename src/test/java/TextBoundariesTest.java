/** Promises 1 to 5 at their edges: the tape, texts with all that the Terms say of them, faults, names. */
public final class TextBoundariesTest {
    private static final String TWO = "corner a 1 2;corner b 3 4;";
    private static final String TEN = Towns.corners(10);
    private static final int BLANKS = 0x20202020;
    private static final String[] LANGUAGE = {"corner", "lane", "steps", "guard", "beat", "thief", "grip", "seed", "law", "dread",
        "take", "stir", "light", "far", "loot", "bold", "had", "guards", "hour", "and", "or", "not"};
    /** Every place where a word may stand; the word is written W, its fault as a word that isn't told: 0 or 4. */
    private static final String[] WORD_PLACES = {"0 corner W 1 2;", "4 " + TWO + "lane W b;", "4 " + TWO + "lane a W;",
        "4 " + TWO + "steps W b;", "4 " + TWO + "steps a W;", "0 " + TWO + "guard W a;", "4 " + TWO + "guard g W;",
        "4 " + TWO + "guard g a;beat W a;", "4 " + TWO + "guard g a;beat g W;", "4 " + TWO + "guard g a;beat g a W;",
        "0 " + TWO + "thief W a 1;", "4 " + TWO + "thief t W 1;"};

    public static void main(String[] args) {
        Promises.run(TextBoundariesTest.class, 1, 5, args);
    }

    private static void promise1_newObject_hasATextWithoutLines() {
        ThiefTakers x = new ThiefTakers();
        for (int what = 0; what <= 12; what++) {
            Told.due("count(" + what + ")", x.count(what), 0);
        }
        new Alike(ThiefTakers::new).leaves("a text without lines", y -> y.text(0), 0);
    }

    private static void promise1_newObject_hasAnEmptyTape() {
        Told.due("none on it", new ThiefTakers().text(1), -2);
        Told.due("the first twenty", new ThiefTakers().feed(BLANKS, BLANKS, BLANKS, BLANKS, BLANKS), 20);
    }

    private static void promise1_newObject_hasNothingToComeBackTo() {
        Told.due("no image", new ThiefTakers().back(), -1);
        Told.due("nothing to undo", new ThiefTakers().undo(), -1);
        Told.due("no fault", new ThiefTakers().fault(0), 0);
        Told.due("no place", new ThiefTakers().fault(1), -1);
    }

    private static ThiefTakers fed(int times) {
        ThiefTakers x = new ThiefTakers();
        for (int k = 0; k < times; k++) {
            x.feed(BLANKS, BLANKS, BLANKS, BLANKS, BLANKS);
        }
        return x;
    }

    private static void promise2_feed_has700BytesAtMost() {
        Told.due("680", fed(33).feed(0, 0, 0, 0, 0), 680);
        Told.due("700", fed(34).feed(0, 0, 0, 0, 0), 700);
        Told.due("it would have 720", fed(35).feed(0, 0, 0, 0, 0), -1);
    }

    private static void promise2_feed_noneComeBeyond700() {
        new Alike(() -> fed(35)).leaves("feed beyond 700", x -> x.feed(1, 2, 3, 4, 5), -1);
        String longest = "corner a 1 2;" + " ".repeat(686) + ";";
        Alike full = new Alike(() -> {
            ThiefTakers x = new ThiefTakers();
            Told.feed(x, longest);
            return x;
        });
        full.leaves("feed", x -> x.feed(-1, -1, -1, -1, -1), -1);
        full.leaves("feed again and again", x -> x.feed(-1, -1, -1, -1, -1) + x.feed(0, 0, 0, 0, 0), -2);
        ThiefTakers x = new ThiefTakers();
        Told.feed(x, longest);
        x.feed(-1, -1, -1, -1, -1);
        Told.due("the text on it", x.text(700), -1);
        Told.due("its last byte is the one at fault", x.fault(1), 699);
    }

    private static void promise2_feed_isTakenAgainWhenTheTapeIsEmpty() {
        ThiefTakers x = fed(35);
        x.text(700);
        for (int k = 1; k <= 35; k++) {
            Told.due("anew " + k, x.feed(BLANKS, BLANKS, BLANKS, BLANKS, BLANKS), 20 * k);
        }
        Told.due("no more", x.feed(BLANKS, BLANKS, BLANKS, BLANKS, BLANKS), -1);
    }

    private static void promise2_feed_eachByteHasItsPlace() {
        for (int place = 0; place < 20; place++) {
            int[] five = {BLANKS, BLANKS, BLANKS, BLANKS, BLANKS};
            int shift = 24 - 8 * (place % 4);
            five[place / 4] = BLANKS & ~(255 << shift) | 255 << shift;
            ThiefTakers x = new ThiefTakers();
            x.feed(five[0], five[1], five[2], five[3], five[4]);
            Told.due("255 among blanks", x.text(20), -1);
            Told.due("its place", x.fault(1), place);
        }
    }

    private static void promise2_feed_theNextTwentyComeBehind() {
        ThiefTakers x = fed(1);
        x.feed(0x3b202020, BLANKS, BLANKS, BLANKS, BLANKS);
        x.text(40);
        Told.due("the first byte of the second feed", x.fault(1), 20);
    }

    private static ThiefTakers withTape() {
        ThiefTakers x = Towns.busy();
        x.text(-1);
        x.text(21);
        return x;
    }

    private static void promise3_text_takesTheFirstNBytes() {
        int[] lengths = {0, 12, 13, 14, 25, 26, 27, 40};
        int[] answers = {0, -1, 1, -1, -1, 2, 2, 2};
        int[] places = {-1, 12, -1, 13, 25, -1, -1, -1};
        for (int k = 0; k < lengths.length; k++) {
            ThiefTakers x = new ThiefTakers();
            Told.feed(x, TWO);
            Told.due("text(" + lengths[k] + ")", x.text(lengths[k]), answers[k]);
            Told.due("the place", x.fault(1), places[k]);
            Told.due("corners", x.count(0), Math.max(0, answers[k]));
        }
    }

    private static void promise3_text_noByteBehindTheFirstNCounts() {
        String text = "corner abc 1 345;corner de 6 78;lane abc de;seed 0099999;law take 10<>9 and(2)>=1 or not bold;grip 100;";
        for (int n = 0; n <= text.length(); n++) {
            ThiefTakers x = new ThiefTakers();
            Told.feed(x, text);
            ThiefTakers alone = new ThiefTakers();
            Told.feed(alone, text.substring(0, n));
            Told.due("lines of the first " + n, x.text(n), alone.text(n));
            Told.due("fault of the first " + n, x.fault(0), alone.fault(0));
            Told.due("its place of the first " + n, x.fault(1), alone.fault(1));
        }
        String full = text + " ".repeat(700 - text.length() - 11) + "law stir 99";
        int[] places = {-1, 689, 689, 692, 693, 693, 693, 693, 697, 698, 699, 700};
        for (int n = 689; n <= 700; n++) {
            ThiefTakers x = new ThiefTakers();
            Told.feed(x, full);
            Told.due("the first " + n + " of 700", x.text(n), n == 689 ? 6 : -1);
            Told.due("the place in the first " + n, x.fault(1), places[n - 689]);
        }
    }

    private static void promise3_text_notSoManyBytesOrBelow0() {
        Alike busy = new Alike(Towns::busy);
        for (int n : Edges.beyond(0, 20)) {
            busy.leaves("text(" + n + ") of 20", x -> x.text(n), -2);
        }
        new Alike(ThiefTakers::new).leaves("text(1) of none", x -> x.text(1), -2);
        new Alike(() -> fed(35)).leaves("text(701) of 700", x -> x.text(701), -2);
        Told.due("the tape stayed", withTape().text(20), 1);
        Told.due("text(19)", withTape().text(19), 1);
        Told.due("text(0)", withTape().text(0), 0);
    }

    private static void promise3_text_theTapeIsEmptyThen() {
        for (int n : new int[] {0, 1, 12, 13, 20}) {
            ThiefTakers x = Towns.busy();
            x.text(n);
            Told.due("none is left behind text(" + n + ")", x.text(1), -2);
            Told.due("the first twenty", x.feed(BLANKS, BLANKS, BLANKS, BLANKS, BLANKS), 20);
        }
    }

    private static void promise3_text_allIsNewThen() {
        String short1 = "corner z 1 2;";
        Alike busy = new Alike(Towns::busy);
        busy.becomes("text(13)", x -> x.text(13), () -> Told.of(short1));
        busy.becomes("text(0)", x -> x.text(0), ThiefTakers::new);
        busy.becomes("the same text again", x -> {
            x.text(-1);
            x.text(0);
            return Told.tell(x, Towns.BUSY);
        }, () -> Told.of(Towns.BUSY));
        new Alike(Towns::full).becomes("a text of less", x -> {
            x.text(0);
            return Told.tell(x, Towns.BUSY);
        }, () -> Told.of(Towns.BUSY));
    }

    /** Nothing of a text that was read before, or in part, is left in the next one. */
    private static void promise3_text_nothingIsLeftOfThoseAhead() {
        String small = "corner a 1 90;corner b 2 80;guard x a;thief s a 1;thief t b 2;";
        String[] fine = {"", Towns.BUSY, Towns.FULL, small, small + "lane a b;grip 50;beat x b a;", small + "grip 30;seed 77777;beat x a b;",
            small + "grip 30;", small + "law take 3;law dread 0-light;lane b a;", small + "law stir 0 or (not 1 and (hour<5));steps b a;",
            small + "law take 1" + "+1".repeat(31) + ";"};
        String[] first = {small + "grip 0;seed 5;steps a b;law stir 0;law take (1+(2*(3<(4 and (not ", small + "grip 1;seed 99999;beat x a b;law take"
            + " not not not (1 or 2*(3 + ", small + "lane a b;beat x b;law take 1+2*3<4 and", Towns.FULL + "?", Towns.BUSY, Towns.FULL,
            small + "law take not 1" + "+1".repeat(31) + ";", "law dread 1" + "+1".repeat(32) + ";"};
        for (String text : fine) {
            for (Whole part : Whole.values()) {
                String due = part.of(Told.of(text));
                for (String ahead : first) {
                    ThiefTakers x = new ThiefTakers();
                    Told.tell(x, ahead);
                    Told.tell(x, text);
                    Told.same(part + " of " + text + " behind " + ahead, part.of(x), due);
                    x = new ThiefTakers();
                    Told.tell(x, ahead);
                    x.text(0);
                    Told.tell(x, text);
                    Told.same(part + " of " + text + " behind one of no lines and " + ahead, part.of(x), due);
                }
            }
        }
    }

    private static void promise3_text_laterTextsHaveAsManyKnots() {
        ThiefTakers x = new ThiefTakers();
        for (int k = 1; k <= 9; k++) {
            String text = "corner a 0 0;thief t a 0;law take " + k + "+1".repeat(31) + ";law stir " + k + ";";
            Told.due("text " + k, Told.tell(x, text), 4);
            Told.due("its knots", x.count(4), 64);
            Told.due("take", x.law(1, 0, 0), k + 31);
            Told.due("stir", x.law(2, 0, 0), k);
        }
    }

    private static void promise3_text_withAFaultAllStays() {
        Alike busy = new Alike(Towns::busy);
        busy.leaves("a text cut short", x -> x.text(12), -1, Whole.FAULT, Whole.TAPE);
        for (String bad : new String[] {"corner y 1 1;lane y y;", "grip 7;seed 5;grip 8;", "law take 1;law stir 2;law dread (1+2",
            "corner y 1 1;guard g y;beat g y y;thief t y 1;thief t y 2;"}) {
            busy.leaves(bad, x -> {
                x.text(12);
                return Told.tell(x, bad);
            }, -1, Whole.FAULT, Whole.TAPE);
        }
    }

    private static void promise3_text_saysHowManyLines() {
        Told.fine(0, "");
        Told.fine(0, " ");
        Told.fine(1, "grip 0;");
        Told.fine(2, "grip 0;seed 0;");
        String all = "grip 0;seed 0;law take 1;law stir 1;law dread 1;";
        Told.fine(15, TEN + all);
        Told.fine(45, TEN + all + Towns.lanes("ab ac ad ae af ag ah ai aj bc bd be bf bg bh bi bj cd ce cf")
                + "guard x a;guard y a;guard z a;beat x a;beat y a;beat z a;"
                + "thief s a 0;thief t a 0;thief u a 0;thief v a 0;");
    }

    private static void promise3_text_mayHave700Bytes() {
        String text = TWO + " ".repeat(700 - TWO.length() - 13) + "corner c 5 6;";
        ThiefTakers x = new ThiefTakers();
        Told.due("700 bytes", Told.tell(x, text), 3);
        Told.due("the last corner's loot", x.corner(2, 1), 6);
        x = new ThiefTakers();
        Told.feed(x, text);
        Told.due("699 bytes", x.text(699), -1);
        Told.due("more must come", x.fault(1), 699);
    }

    private static void promise3_text_wordsHave1To6Letters() {
        for (String place : WORD_PLACES) {
            int untold = place.charAt(0) - '0';
            String text = place.substring(2);
            for (String word : new String[] {"z", "zz", "zzzzz", "zzzzzz"}) {
                if (untold == 0) {
                    Told.due(text, Told.tell(new ThiefTakers(), text.replace("W", word)) > 0, true);
                } else {
                    Told.fault(untold, text.replace("W", "^" + word));
                }
            }
            Told.fault(1, text.replace("W", "^zzzzzzz"));
            Told.fault(1, text.replace("W", "^zzzzzzzzzzzzzzzzzzzzzzzzzzzzzzzzzzzzzzz"));
        }
        Told.fault(1, "^;");
        Told.fault(1, "^zzzzzzz;");
        Told.fault(1, "law take ^zzzzzzz;");
        Told.fault(1, "law ^zzzzzzz 1;");
    }

    private static void promise3_text_wordsOf6LettersAreTakenWhole() {
        ThiefTakers x = Told.of("corner abcdef 1 2;corner abcdeg 3 4;corner abcde 5 6;lane abcdef abcdeg;");
        Told.due("the sixth letter counts", x.named(0, Told.letters("abcdeg")), 1);
        Told.due("five letters", x.named(0, Told.letters("abcde")), 2);
        Told.fault(3, "corner abcdef 1 2;corner ^abcdef 1 2;");
    }

    private static void promise3_text_aWordOfTheLanguageIsNoName() {
        for (String word : LANGUAGE) {
            for (String place : WORD_PLACES) {
                Told.fault(1, place.substring(2).replace("W", "^" + word));
            }
            Told.fine(1, "corner " + word.substring(1) + " 1 2;");
            if (word.length() < 6 && !word.equals("guard")) {
                Told.fine(1, "corner " + word + "s 1 2;");
                Told.fine(1, "corner x" + word + " 1 2;");
            }
        }
        Told.fine(1, "corner corne 1 2;");
        Told.fine(1, "corner guardt 1 2;");
        Told.fine(1, "corner lights 1 2;");
    }

    private static void promise3_text_wordsOfTheLanguageEndWhereLettersEnd() {
        for (String word : LANGUAGE) {
            Told.fault(1, "^" + word + "x;");
            Told.fault(1, "^x" + word + ";");
        }
        Told.fault(1, "^corne a 1 2;");
        Told.fault(1, "^cornera 1 2;");
        Told.fault(1, "law take 1 ^an 1;");
        Told.fault(1, "law take 1 ^andd 1;");
        Told.fault(1, "law take ^no 1;");
        Told.fault(1, "law take ^nott 1;");
        Told.fault(1, "law take ^ligh;");
        Told.fine(1, "law take 1and 1or not(0)or 1;");
    }

    private static void promise3_text_blanksAre10And32() {
        for (int sign = 0; sign < 256; sign++) {
            boolean blank = sign == 10 || sign == 32;
            String text = "" + (char) sign;
            if (blank) {
                Told.fine(0, text);
                Told.fine(1, "corner" + text + "a" + text + "1" + text + "2" + text + ";" + text);
            } else {
                Told.fault(1, 0, text);
            }
            boolean joins = sign >= '0' && sign <= '9' || sign >= 'a' && sign <= 'z';
            if (!blank && !joins && sign != ';') {
                Told.fault(1, 6, "corner" + text + "a 1 2;");
                Told.fault(1, 8, "corner a" + text + "1 2;");
                Told.fault(1, 12, "corner a 1 2" + text + ";");
            }
        }
    }

    private static void promise3_text_noBlankIsDueWhereTokensEndByThemselves() {
        Told.fine(1, "corner a1 2;");
        Told.fine(2, "corner a1 2;corner b3 4;");
        Told.fault(1, "corner a1^;");
        Told.fault(1, "^cornera 1 2;");
        Told.fine(1, "law take 1+2*3<=4and 5;");
        Told.fine(1, "law take not(1)or(not 2);");
    }

    /** The number is written N: the greatest that is taken, and one more, which isn't. */
    private static void upTo(int greatest, String text) {
        int lines = text.replaceAll("[^;]", "").length();
        for (int number : new int[] {0, 1, greatest - 1, greatest}) {
            Told.fine(lines, text.replace("N", "" + number));
        }
        for (String number : new String[] {"" + (greatest + 1), "1000000", "1000001", "10000000", "2147483647", "2147483648",
            "4294967296", "4294967297", "9223372036854775808", "18446744073709551616", "18446744073709551617",
            "1" + "0".repeat(64), "9".repeat(200)}) {
            Told.fault(2, text.replace("N", "^" + number));
        }
        Told.fine(lines, text.replace("N", "0".repeat(100) + greatest));
        Told.fine(lines, text.replace("N", "0".repeat(100)));
        Told.fault(2, text.replace("N", "^000" + (greatest + 1)));
        Told.fault(1, text.replace("N", "^-1"));
        Told.fault(1, text.replace("N", "^x"));
    }

    private static void promise3_text_lightIs0To9() {
        upTo(9, "corner a N 0;");
        Told.due("0", Told.of("corner a 0 5;").corner(0, 0), 0);
        Told.due("9", Told.of("corner a 9 5;").corner(0, 0), 9);
    }

    private static void promise3_text_lootIs0To999() {
        upTo(999, "corner a 0 N;");
        Told.due("0", Told.of("corner a 5 0;").corner(0, 1), 0);
        Told.due("999", Told.of("corner a 5 999;").corner(0, 1), 999);
    }

    private static void promise3_text_boldIs0To9() {
        upTo(9, "corner a 0 0;thief t a N;");
        Told.due("0", Told.of("corner a 5 5;thief t a 0;").thief(0, 1), 0);
        Told.due("9", Told.of("corner a 5 5;thief t a 9;").thief(0, 1), 9);
    }

    private static void promise3_text_gripIs0To100And100Untold() {
        upTo(100, "grip N;");
        for (int grip : new int[] {0, 1, 99, 100}) {
            ThiefTakers x = Told.of("grip " + grip + ";");
            Told.due("of a hundred", x.holds(1, 0) * 100, grip * x.holds(1, 1));
        }
        String town = "corner a 0 9;guard g a;thief t a 1;";
        Told.same("untold is 100", Whole.COMES.of(Told.of(town)), Whole.COMES.of(Told.of(town + "grip 100;")));
    }

    private static void promise3_text_seedIs0To99999And0Untold() {
        upTo(99999, "seed N;");
        String town = "corner a 0 99;guard g a;guard h a;thief t a 1;thief u a 2;grip 10;";
        Told.same("untold is 0", Whole.COMES.of(Told.of(town)), Whole.COMES.of(Told.of(town + "seed 0;")));
        long last = (99999L * 1103515245L + 12345L) % 2147483648L;
        int mod = (int) (last / 65536 % 100);
        ThiefTakers x = Told.of("corner a 0 99;guard g a;thief t a 1;seed 99999;grip " + mod + ";");
        x.go(1);
        Told.due("not below", x.count(6), 0);
        x = Told.of("corner a 0 99;guard g a;thief t a 1;seed 99999;grip " + (mod + 1) + ";");
        x.go(1);
        Told.due("below", x.count(6), 1);
    }

    private static void promise3_text_numbersOfLawsAre0To9999() {
        upTo(9999, "law take N;");
        upTo(9999, "law stir (1+N)*2;");
        Told.due("9999", Towns.worth("9999"), 9999);
        Told.due("0", Towns.worth("0"), 0);
    }

    private static void promise3_text_cornersAre10AtMost() {
        Told.fine(9, Towns.corners(9));
        Told.fine(10, TEN);
        Told.fault(2, TEN + "^corner k 0 0;");
        Told.fault(2, TEN + " \n ^corner a 99 9999");
        Told.fault(2, TEN + "^corner");
        ThiefTakers x = Told.of(TEN);
        Told.due("ten", x.count(0), 10);
        Told.due("the tenth", x.named(0, Told.letters("j")), 9);
    }

    private static void promise3_text_lanesAndStepsAre20AtMostInAll() {
        String lanes = Towns.lanes("ab ac ad ae af ag ah ai aj bc bd be bf bg bh bi bj cd ce");
        String steps = Towns.steps("ab ac ad ae af ag ah ai aj bc bd be bf bg bh bi bj cd ce");
        for (String nineteen : new String[] {lanes, steps}) {
            for (String last : new String[] {"lane j i;", "steps j i;"}) {
                ThiefTakers x = Told.of(TEN + nineteen + last);
                Told.due("twenty", x.count(1), 20);
                Told.due("the twentieth", x.lane(19, 0), 9);
                Told.fault(2, TEN + nineteen + last + "^lane i h;");
                Told.fault(2, TEN + nineteen + last + "^steps i h;");
                Told.fault(2, TEN + nineteen + last + "^steps a b;");
                Told.fault(2, TEN + nineteen + last + "^lane z z;");
                Told.fault(2, TEN + nineteen + last + "^lane");
            }
            Told.due("nineteen", Told.of(TEN + nineteen).count(1), 19);
        }
    }

    private static void promise3_text_guardsAre3AtMost() {
        Told.fine(4, TWO + "guard g a;guard h a;");
        Told.fine(5, TWO + "guard g a;guard h a;guard i b;");
        Told.fault(2, TWO + "guard g a;guard h a;guard i b;^guard j a;");
        Told.fault(2, TWO + "guard g a;guard h a;guard i b;^guard g z;");
        Told.fault(2, TWO + "guard g a;guard h a;guard i b;^guard");
    }

    private static void promise3_text_thievesAre4AtMost() {
        Told.fine(5, TWO + "thief s a 0;thief t a 0;thief u b 0;");
        Told.fine(6, TWO + "thief s a 0;thief t a 0;thief u b 0;thief v b 0;");
        Told.fault(2, TWO + "thief s a 0;thief t a 0;thief u b 0;thief v b 0;^thief w a 0;");
        Told.fault(2, TWO + "thief s a 0;thief t a 0;thief u b 0;thief v b 0;^thief s z 10;");
        Told.fault(2, TWO + "thief s a 0;thief t a 0;thief u b 0;thief v b 0;^thief");
    }

    private static void promise3_text_aBeatHas1To8Corners() {
        String guard = TWO + "guard g a;guard h a;";
        Told.fault(1, guard + "beat g^;");
        Told.fault(1, guard + "beat g^");
        Told.fine(5, guard + "beat g b;");
        Told.fine(5, guard + "beat g a b a b a b a;");
        Told.fine(5, guard + "beat g a b a b a b a b;");
        Told.fine(5, guard + "beat g a a a a a a a a;");
        Told.fault(2, guard + "beat g a b a b a b a b ^a;");
        Told.fault(2, guard + "beat g a b a b a b a b ^z a a a;");
        Told.fault(1, guard + "beat g a b a b a b a b ^1;");
        Told.fault(1, guard + "beat g a b a b a b a b^");
        Told.fine(6, guard + "beat g a b a b a b a b;beat h a a a a a a a a;");
    }

    private static void promise3_text_bracketsAreOpen8AtMost() {
        for (int open = 1; open <= 8; open++) {
            Told.fine(1, "law take " + "(".repeat(open) + "1" + ")".repeat(open) + ";");
            Told.fault(1, "law take " + "(".repeat(open) + "1" + ")".repeat(open - 1) + "^;");
            Told.fault(1, "law take " + "(".repeat(open) + "1" + ")".repeat(open) + "^);");
        }
        Told.fault(2, "law take ((((((((^(1)))))))));");
        Told.fault(2, "law take ((((((((^(");
        Told.fault(2, "law take not((((((((not ^(1)))))))));");
        Told.fault(1, "law take ((((((((1^(");
        Told.fine(1, "law take ((((((((1))))))))*((((((((2))))))));");
        Told.fine(1, "law take (((((((1+(2)+(3))))))));");
        Told.fault(2, "law take (((((((1+(2)+(^(3)))))))));");
        Told.fine(2, "law take ((((((((1))))))));law stir ((((((((1))))))));");
    }

    private static void promise3_text_knotsOfAllLawsAre64AtMost() {
        String sixtyThree = "1" + "+1".repeat(31);
        ThiefTakers x = Told.of("law take " + sixtyThree + ";");
        Told.due("63", x.count(4), 63);
        x = Told.of("law take not " + sixtyThree + ";");
        Told.due("64", x.count(4), 64);
        Told.fault(2, "law take not not 1" + "+1".repeat(30) + "+^1;");
        Told.fault(2, "law take " + sixtyThree + "+^1;");
        Told.fault(2, "law take not " + sixtyThree + "^+1;");
        Told.fine(2, "law take " + sixtyThree + ";law stir 1;");
        Told.fine(2, "law take " + sixtyThree + ";law stir far;");
        for (String sign : new String[] {"+", "-", "*", "/", "<", "<=", "=", "<>", ">=", ">", " and ", " or "}) {
            String blank = sign.startsWith(" ") ? " " : "";
            Told.fault(2, "law take " + sixtyThree + ";law stir 1" + blank + "^" + sign.trim() + " 1;");
        }
        for (String knot : new String[] {"1", "light", "far", "loot", "bold", "had", "guards", "hour", "not 1", "10000"}) {
            Told.fault(2, "law take " + sixtyThree + ";law stir 1;law dread ^" + knot + ";");
        }
        Told.fault(2, "law take " + sixtyThree + ";law stir 1;law dread ((((((((^1))))))));");
        Told.fine(2, "law take ((((((((" + sixtyThree + "))))))));law stir (((1)));");
        Told.fault(1, "law take not " + sixtyThree + "^(;");
        Told.fault(1, "law take not " + sixtyThree + " ^not;");
    }

    private static void promise3_text_the64thKnotCountsAsTheOthersDo() {
        Told.due("62", Towns.worth("not" + "(1" + "+1".repeat(30) + ")"), 0);
        Told.due("63", Towns.worth("1" + "+1".repeat(31)), 32);
        Told.due("64, the not is worked out last", Towns.worth("not 1" + "+1".repeat(30) + "-31"), 1);
        Told.due("64, another number", Towns.worth("not 1" + "+1".repeat(30) + "-30"), 0);
        Told.due("62 nots", Towns.worth("not ".repeat(62) + "5"), 1);
        Told.due("63 nots", Towns.worth("not ".repeat(63) + "5"), 0);
    }

    private static void promise3_text_64KnotsWaitIn8Brackets() {
        for (int nots = 54; nots <= 63; nots++) {
            int inside = nots / 2;
            String law = "not ".repeat(nots - inside) + "((((((((" + "not ".repeat(inside) + "5))))))))";
            Told.due(nots + " nots", Towns.worth(law), nots % 2 == 0 ? 1 : 0);
        }
        Told.due("a sum and a product in each", Towns.worth("1+2*(".repeat(8) + "7<8 and not 0" + ")".repeat(8)), 511);
    }

    private static void promise3_text_aSignRightBehindASmallerOrGreaterBelongsToIt() {
        for (String sign : new String[] {"<", "<=", "=", "<>", ">=", ">"}) {
            Told.fine(1, "law take 1" + sign + "2;");
            Told.fine(1, "law take 1 " + sign + "\n2;");
        }
        for (String pair : new String[] {"< =", "< >", "> =", "=<", "=>", "==", "><", ">>", "<<", "<=>", "<>=", ">==", "<=="}) {
            int second = pair.startsWith("< ") || pair.startsWith("> ") || pair.length() == 3 ? 2 : 1;
            Told.fault(1, "law take 1" + pair.substring(0, second) + "^" + pair.substring(second) + "2;");
        }
        Told.fault(1, "law take 1<^");
        Told.fault(1, "law take 1<=^");
        ThiefTakers x = new ThiefTakers();
        Told.feed(x, "law take 1<=2;");
        Told.due("cut between the two", x.text(11), -1);
        Told.due("its place", x.fault(1), 11);
    }

    private static void promise3_text_oneComparisonAtMostBetweenTwoSums() {
        for (String sign : new String[] {"<", "<=", "=", "<>", ">=", ">"}) {
            Told.fine(1, "law take 1+2" + sign + "3*4;");
            Told.fault(1, "law take 1" + sign + "2^" + sign + "3;");
            Told.fault(1, "law take not 1" + sign + "2+3*4^" + sign + "5;");
            Told.fine(1, "law take (1" + sign + "2)" + sign + "3;");
            Told.fine(1, "law take 1" + sign + "2 and 3" + sign + "4 or not 5" + sign + "6;");
            Told.fault(1, "law take (1" + sign + "2^" + sign + "3);");
            Told.fault(1, "law take 1" + sign + "(2" + sign + "3)^" + sign + "4;");
        }
    }

    private static void promise3_text_notStandsOnlyAheadOfAComparison() {
        for (String ahead : new String[] {"1+", "1-", "1*", "1/", "1<", "1>=", "1 ", "1=2 ", "(1)"}) {
            Told.fault(1, "law take " + ahead + "^not 2;");
        }
        for (String ahead : new String[] {"", "not ", "(", "1 and ", "1 or ", "1+("}) {
            String behind = ahead.endsWith("(") ? ")" : "";
            Told.fine(1, "law take " + ahead + "not 2" + behind + ";");
        }
    }

    private static void promise4_fault_isTheLengthWhereMoreMustCome() {
        String text = "corner aa 1 22 ; corner b 3 44 ; lane aa b ; steps aa b ; guard g aa ; beat g aa b ;"
                + " thief t b 5 ; grip 66 ; seed 7 ; law dread not ( 1 + 2 ) <= far and hour or had ;";
        String[] tokens = text.split(" ");
        StringBuilder sofar = new StringBuilder();
        int lines = 0;
        for (String token : tokens) {
            sofar.append(token);
            for (String blanks : new String[] {"", " ", "\n \n"}) {
                if (token.equals(";")) {
                    Told.fine(lines + 1, sofar + blanks);
                } else {
                    Told.fault(1, sofar + blanks + "^");
                }
            }
            lines += token.equals(";") ? 1 : 0;
            sofar.append(' ');
        }
        ThiefTakers x = new ThiefTakers();
        Told.feed(x, TWO);
        x.text(19);
        Told.due("the length asked for, not the tape's", x.fault(1), 19);
    }

    private static void promise4_fault_aTokenThatIsNone() {
        for (String bad : new String[] {"?", "A", "Z", "!", ",", ":", "[", "{", "_", "\t", "\0", "\u0080", "\u00ff", "zzzzzzz"}) {
            Told.fault(1, "^" + bad);
            Told.fault(1, TWO + " ^" + bad);
            Told.fault(1, "corner ^" + bad + " 1 2;");
            Told.fault(1, "corner a ^" + bad + " 2;");
            Told.fault(1, "corner a 1 2 ^" + bad);
            Told.fault(1, "law ^" + bad);
            Told.fault(1, "law take ^" + bad);
            Told.fault(1, "law take 1 ^" + bad);
            Told.fault(1, "law take (1 ^" + bad);
        }
    }

    private static void promise4_fault_aTokenThatIsNoneInPlaceOfAWord() {
        String[] bads = {"{", "}", "|", "~", "`", "@", "\u007f", "/", ":", "A", "Z", "{a", "`a", "zzzzzzz", "0", "("};
        for (String place : WORD_PLACES) {
            for (String bad : bads) {
                Told.fault(1, place.substring(2).replace("W", "^" + bad));
            }
        }
        Told.fault(1, "corner a^{ 1 2;");
        Told.fault(1, "corner a^` 1 2;");
        Told.fault(1, "corner a 1^: 2;");
        Told.fault(1, "corner a 1^/ 2;");
    }

    private static void promise4_fault_aNumberIsNoSignAndNoWord() {
        for (int number = 0; number <= 300; number++) {
            Told.fault(1, "grip 1 ^" + number);
            Told.fault(1, "^" + number + " a 1 2;");
            Told.fault(1, TWO + "guard g a;beat g a ^" + number);
            Told.fault(1, "law take 1 ^" + number + " 1;");
            Told.fault(1, "law take (1 ^" + number);
            Told.fault(1, "law ^" + number + " 1;");
            Told.due("number " + number, Towns.worth("" + number), number);
            Told.due("1 and number " + number, Towns.worth("1+" + number), number + 1);
            Told.due("number " + number + " in brackets", Towns.worth("(" + number + ")"), number);
        }
    }

    private static void promise4_fault_aTokenThatCantStandThere() {
        Told.fault(1, TWO + "^;");
        Told.fault(1, "^a;");
        Told.fault(1, "^1;");
        for (String word : LANGUAGE) {
            boolean opens = "corner lane steps guard beat thief grip seed law".contains(word) && !word.equals("guards");
            if (!opens) {
                Told.fault(1, TWO + "^" + word + " a;");
            }
        }
        Told.fault(1, "corner a 1 2 ^3;");
        Told.fault(1, "corner a 1^;");
        Told.fault(1, TWO + "lane a^;");
        Told.fault(1, TWO + "lane a b ^b;");
        Told.fault(1, TWO + "steps a ^1;");
        Told.fault(1, TWO + "guard g a ^a;");
        Told.fault(1, TWO + "thief t a^;");
        Told.fault(1, TWO + "thief t a 1 ^1;");
        Told.fault(1, "grip^;");
        Told.fault(1, "grip 1 ^1;");
        Told.fault(1, "seed^;");
        Told.fault(1, "law^;");
        Told.fault(1, "law take^;");
        Told.fault(1, "law take 1 ^1;");
        Told.fault(1, "law take 1^)");
        Told.fault(1, "law take (^)");
        Told.fault(1, "law take ^*1;");
        Told.fault(1, "law take 1+^;");
        Told.fault(1, "law take not^;");
    }

    private static void promise4_fault_aRuleIsDreadTakeOrStir() {
        for (String word : LANGUAGE) {
            boolean rule = word.equals("dread") || word.equals("take") || word.equals("stir");
            if (rule) {
                Told.fine(1, "law " + word + " 1;");
            } else {
                Told.fault(1, "law ^" + word + " 1;");
            }
        }
        Told.fault(1, "law ^x 1;");
        Told.fault(1, "law ^1;");
    }

    private static void promise4_fault_namesInLawsAreSeven() {
        for (String word : LANGUAGE) {
            boolean name = "light far loot bold had guards hour".matches(".*\\b" + word + "\\b.*");
            if (name) {
                Told.fine(1, "law take " + word + ";");
            } else if (!word.equals("not")) {
                Told.fault(1, "law take ^" + word + ";");
            }
        }
    }

    private static void promise4_fault_toldAlready() {
        Told.fault(3, "corner a 1 2;corner ^a 3 4;");
        Told.fault(3, TWO + "guard g a;guard ^g b;");
        Told.fault(3, TWO + "thief t a 1;thief ^t b 2;");
        Told.fault(3, TWO + "guard g a;beat g a;beat ^g b;");
        Told.fault(3, "grip 1;^grip 2;");
        Told.fault(3, "seed 1;^seed 2;");
        for (String rule : new String[] {"dread", "take", "stir"}) {
            Told.fault(3, "law " + rule + " 1;law ^" + rule + " 2;");
        }
        Told.fine(3, "law dread 1;law take 1;law stir 1;");
        Told.fault(3, "grip 1;seed 1;law take 1;law stir 1;^grip 2;");
    }

    private static void promise4_fault_aLaneToldAlreadyInEitherOrder() {
        Told.fault(3, TWO + "lane a b;lane a ^b;");
        Told.fault(3, TWO + "lane a b;lane b ^a;");
        Told.fine(4, TWO + "lane a b;steps a b;");
        Told.fine(4, TWO + "lane a b;steps b a;");
        Told.fine(5, TWO + "corner c 0 0;lane a b;lane a c;");
    }

    private static void promise4_fault_stepsToldAlreadyInThisOrder() {
        Told.fault(3, TWO + "steps a b;steps a ^b;");
        Told.fine(4, TWO + "steps a b;steps b a;");
        Told.fine(5, TWO + "steps a b;steps b a;lane b a;");
        Told.fault(3, TWO + "steps a b;steps b a;lane b a;steps b ^a;");
        Told.fault(3, TWO + "steps a b;steps b a;lane b a;lane a ^b;");
    }

    private static void promise4_fault_namesAreOfTheirKind() {
        Told.fine(5, TWO + "guard a b;thief a b 1;thief b a 1;");
        Told.fault(4, TWO + "guard g a;beat ^a a;");
        Told.fault(4, TWO + "guard g ^g;");
        Told.fault(4, TWO + "guard g a;thief t ^g 1;");
    }

    private static void promise4_fault_notToldAhead() {
        Told.fault(4, "lane ^a b;" + TWO);
        Told.fault(4, "corner a 1 2;lane a ^b;corner b 3 4;");
        Told.fault(4, "corner a 1 2;steps ^b a;");
        Told.fault(4, "guard g ^a;" + TWO);
        Told.fault(4, TWO + "beat ^g a;guard g a;");
        Told.fault(4, "corner a 1 2;guard g a;beat g a ^b;corner b 3 4;");
        Told.fault(4, "corner a 1 2;guard g a;beat g ^b;corner b 3 4;");
        Told.fault(4, "thief t ^a 1;" + TWO);
    }

    private static void promise4_fault_aLaneFromACornerToItself() {
        Told.fault(5, TWO + "lane a ^a;");
        Told.fault(5, TWO + "steps b ^b;");
        Told.fault(4, TWO + "lane ^z z;");
        Told.fault(5, TWO + "lane a b;lane a ^a");
    }

    private static void promise4_fault_theFirstAlongTheText() {
        Told.fault(5, TWO + "lane a ^a;?");
        Told.fault(2, "corner a ^10 1000;corner a 0 0;");
        Told.fault(3, TWO + "corner ^a 10 0;?");
        Told.fault(4, TWO + "lane a ^c ?");
        Told.fault(2, "grip ^101;grip 1;");
        Told.fault(1, "grip 1^?grip 1;");
        Told.fault(3, "grip 1;^grip;");
        Told.fault(2, TEN + "^corner a 0;");
        Told.fault(3, TWO + "guard g a;beat g a;beat ^g;");
        Told.fault(3, "law take 1;law ^take ?");
        Told.fault(2, "law take ^10000+?");
    }

    private static void promise4_fault_ofOnePlaceTheLeast() {
        // 1 and 2: a number beyond all where none can stand, a ninth bracket, a 65th knot where none can stand.
        Told.fault(1, "corner ^99999999 1 2;");
        Told.fault(1, "corner a 1 2 ^99999999;");
        Told.fault(1, "law take ((((((((1^(");
        Told.fault(1, "law take " + "not ".repeat(63) + "1 ^1;");
        // 2 and 4: a ninth corner of a beat that isn't told.
        Told.fault(2, TWO + "guard g a;beat g a a a a a a a a ^z;");
        // 1 and 4: a word too long isn't told, either.
        Told.fault(1, TWO + "lane a ^zzzzzzz;");
    }

    private static void promise4_fault_what0And1() {
        Alike busy = new Alike(Towns::busy);
        for (int what : Edges.beyond(0, 1)) {
            busy.leaves("fault(" + what + ")", x -> x.fault(what), -1);
        }
        busy.leaves("fault(0)", x -> x.fault(0), 1);
        busy.leaves("fault(1)", x -> x.fault(1), 7);
    }

    private static void promise4_fault_ofTheLatestTextThatWasNotMinus2() {
        ThiefTakers x = new ThiefTakers();
        Told.due("none at first", x.fault(0) * 10 + x.fault(1), -1);
        Told.tell(x, TWO + "lane a a;");
        Told.due("a fault", x.fault(0), 5);
        x.text(1);
        x.text(-1);
        Told.due("-2 leaves it", x.fault(0), 5);
        Told.due("-2 leaves its place", x.fault(1), 33);
        Told.tell(x, "corner?");
        Told.due("another one", x.fault(0), 1);
        Told.due("its place", x.fault(1), 6);
        x.text(0);
        Told.due("none any more", x.fault(0), 0);
        Told.due("no place any more", x.fault(1), -1);
    }

    private static void promise5_named_what0To2() {
        String town = "corner a 0 0;guard a a;thief a a 0;";
        new Alike(() -> Told.of(town)).takes("named a", 0, 2, (x, what) -> x.named(what, Told.letters("a")), -1);
        new Alike(Towns::busy).takes("named", 0, 0, (x, what) -> x.named(what, Told.letters("a")), -1);
    }

    private static void promise5_named_lettersOf5BitsTheFirstHighest() {
        ThiefTakers x = Told.of("corner a 0 0;corner z 0 0;corner zzzzzz 0 0;corner abz 0 0;corner ba 0 0;corner aaaaaa 0 0;");
        String[] names = {"a", "z", "zzzzzz", "abz", "ba", "aaaaaa"};
        for (int k = 0; k < names.length; k++) {
            Told.due(names[k], x.named(0, Told.letters(names[k])), k);
            for (int bit = 0; bit < 32; bit++) {
                int unlike = Told.letters(names[k]) ^ 1 << bit;
                Told.due(names[k] + " but for bit " + bit, x.named(0, unlike), -1);
            }
        }
    }

    private static void promise5_named_noneSuch() {
        ThiefTakers x = Told.of("corner a 0 0;guard abcdef a;thief a a 0;");
        for (int letters : new int[] {0, 1, -1, 31, 32, Integer.MIN_VALUE, Integer.MAX_VALUE, 1 << 20, 27 << 25, 1 << 30}) {
            for (int what = 0; what <= 2; what++) {
                Told.due("named(" + what + ", " + letters + ")", x.named(what, letters), -1);
            }
        }
        Told.due("its first letters alone", x.named(1, Told.letters("abcde")), -1);
        Told.due("of another kind", x.named(0, Told.letters("abcdef")), -1);
        Told.due("of no text", new ThiefTakers().named(0, 0), -1);
    }

    private static void promise5_named_theLastOfAFullTown() {
        ThiefTakers x = Told.of(Towns.FULL);
        Told.due("corner j", x.named(0, Told.letters("j")), 9);
        Told.due("guard z", x.named(1, Told.letters("z")), 2);
        Told.due("thief v", x.named(2, Told.letters("v")), 3);
        x.text(0);
        Told.tell(x, "corner a 0 0;");
        Told.due("of an earlier text", x.named(0, Told.letters("j")), -1);
        Told.due("of an earlier text", x.named(1, Told.letters("z")), -1);
    }
}
