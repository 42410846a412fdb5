/** Promises 33 to 42 at their edges: walks, matches, talk, odds, facts, how bold one is, what to ask. */
public final class OddsBoundariesTest {
    private static final String STAR = Towns.corners(10) + Towns.lanes("ab ac ad ae af ag ah ai aj");

    public static void main(String[] args) {
        Promises.run(OddsBoundariesTest.class, 33, 42, args);
    }

    private static void promise33_drunk_noSuchOnes() {
        Alike busy = new Alike(Towns::busy);
        busy.takes("from", 0, 3, (x, corner) -> x.drunk(corner, 0, 1, 1), -1);
        busy.takes("to", 0, 3, (x, corner) -> x.drunk(0, corner, 1, 1), -1);
        busy.takes("n", 0, 4, (x, n) -> x.drunk(0, 0, n, 1), -1);
        busy.takes("what", 0, 1, (x, what) -> x.drunk(0, 0, 1, what), -1);
        new Alike(Towns::full).takes("to", 0, 9, (x, corner) -> x.drunk(9, corner, 4, 1), -1);
        new Alike(ThiefTakers::new).leaves("in no town", x -> x.drunk(0, 0, 0, 0), -1);
    }

    private static void drunk(ThiefTakers x, int from, int to, int n, String due) {
        String told = "drunk(" + from + ", " + to + ", " + n + ")";
        int bar = due.indexOf('/');
        Told.due(told + " above", x.drunk(from, to, n, 0), Long.parseLong(due.substring(0, bar)));
        Told.due(told + " below", x.drunk(from, to, n, 1), Long.parseLong(due.substring(bar + 1)));
    }

    private static void promise33_drunk_0Times() {
        ThiefTakers x = Told.of(STAR);
        drunk(x, 0, 0, 0, "1/1");
        drunk(x, 9, 9, 0, "1/1");
        drunk(x, 0, 9, 0, "0/1");
        drunk(x, 9, 0, 0, "0/1");
    }

    private static void promise33_drunk_4TimesAmongAsManyAsMayBe() {
        ThiefTakers x = Told.of(STAR);
        drunk(x, 0, 0, 1, "1/10");
        drunk(x, 0, 9, 1, "1/10");
        drunk(x, 0, 0, 4, "467/1250");
        // All leaves are alike: the other 783 parts of 1250 are theirs.
        drunk(x, 0, 9, 4, "87/1250");
    }

    private static void promise33_drunk_inLeastTerms() {
        ThiefTakers x = Told.of(Towns.path(2));
        for (int n = 1; n <= 4; n++) {
            drunk(x, 0, 1, n, "1/2");
        }
        x = Told.of(Towns.path(3));
        drunk(x, 0, 2, 1, "0/1");
        drunk(x, 0, 2, 2, "1/6");
        drunk(x, 0, 0, 2, "5/12");
        x = Told.of(Towns.corners(1));
        drunk(x, 0, 0, 4, "1/1");
        x = Told.of(Towns.corners(2));
        drunk(x, 0, 1, 4, "0/1");
    }

    private static void promise33_drunk_notAlongWhatIsBarredOrAgainstSteps() {
        ThiefTakers x = Told.of(Towns.corners(3) + "lane a b;steps c a;");
        drunk(x, 0, 2, 4, "0/1");
        drunk(x, 2, 0, 1, "1/2");
        x.bar(0);
        drunk(x, 0, 0, 4, "1/1");
    }

    private static void promise34_match_what0To4() {
        new Alike(Towns::busy).takes("match", 0, 4, ThiefTakers::match, -1);
        new Alike(Towns::full).takes("match", 0, 4, ThiefTakers::match, -1);
        new Alike(ThiefTakers::new).takes("match", 0, 4, ThiefTakers::match, -1);
    }

    private static void promise34_match_notSoManyGuardsOrThieves() {
        for (int guards = 0; guards <= 3; guards++) {
            for (int thieves = 0; thieves <= 4; thieves++) {
                String town = "corner a 0 0;" + "guard g a;guard h a;guard i a;".substring(0, 10 * guards)
                        + "thief s a 0;thief t a 0;thief u a 0;thief v a 0;".substring(0, 12 * thieves);
                ThiefTakers x = Told.of(town);
                int many = Math.min(guards, thieves);
                for (int guard = 0; guard < 3; guard++) {
                    Told.due("guard " + guard + " in " + town, x.match(guard), guard < many ? guard : -2);
                }
                Told.due("how many in " + town, x.match(3), many);
                Told.due("how far in " + town, x.match(4), 0);
            }
        }
    }

    private static void promise34_match_99IsAsItIs() {
        ThiefTakers x = Told.of(Towns.corners(4) + "guard g a;guard h b;guard i c;thief s d 0;thief t d 0;thief u d 0;thief v d 0;");
        Told.due("three", x.match(3), 3);
        Told.due("three times 99", x.match(4), 297);
        Told.due("by numbers", x.match(0) * 100 + x.match(1) * 10 + x.match(2), 12);
        // As many as may be comes ahead of how far.
        x = Told.of(Towns.corners(3) + "lane a b;guard g a;guard h c;thief s b 0;thief t a 0;");
        Told.due("two, one of them 99 far", x.match(3) * 1000 + x.match(4), 2099);
        Told.due("the near one is a's own", x.match(0) * 10 + x.match(1), 10);
    }

    private static void promise34_match_farFromTheGuardToTheThief() {
        ThiefTakers x = Told.of(Towns.corners(5) + Towns.steps("ab bc cd de ea") + "guard g a;thief s e 0;thief t c 0;");
        Told.due("e is four from a, c two", x.match(0) * 100 + x.match(4), 102);
        x = Told.of(Towns.corners(3) + "steps b a;steps a c;guard g a;guard h c;thief s b 0;thief t c 0;");
        Told.due("99 and 0, not 1 and 99", x.match(0) * 10000 + x.match(1) * 1000 + x.match(4), 1099);
        x = Told.of(Towns.corners(2) + "steps b a;guard g a;thief s b 0;");
        Told.due("none leads there", x.match(4), 99);
        Told.due("he has him all the same", x.match(0), 0);
    }

    private static void promise34_match_whoIsCaughtIsNone() {
        ThiefTakers x = Told.of("corner a 0 0;guard g a;guard h a;thief s a 0;");
        Told.due("free", x.match(0), 0);
        x.go(1);
        Told.due("caught", x.match(0), -2);
        Told.due("how many", x.match(3), 0);
        Told.due("how far", x.match(4), 0);
    }

    private static void promise34_match_noneIsLast() {
        ThiefTakers x = Told.of(Towns.path(3) + "guard g a;guard h a;guard i a;thief s b 0;thief t b 0;");
        Told.due("the first two have one", x.match(0) * 10 + x.match(1), 1);
        Told.due("the third has none", x.match(2), -2);
        x = Told.of(Towns.path(3) + "guard g a;guard h b;guard i b;thief s b 0;thief t b 0;");
        Told.due("the first has none where that is less far", x.match(0), -2);
        Told.due("the others by numbers", x.match(1) * 10 + x.match(2), 1);
    }

    private static void promise35_rests_noSuchThievesOrAlike() {
        Alike busy = new Alike(Towns::busy);
        for (int thief : Edges.beyond(0, 2)) {
            busy.leaves("one " + thief, x -> x.rests(thief, 0), -1);
            busy.leaves("other " + thief, x -> x.rests(0, thief), -1);
            busy.leaves("both " + thief, x -> x.rests(thief, thief), -1);
        }
        for (int thief = 0; thief < 3; thief++) {
            int alike = thief;
            busy.leaves("alike " + thief, x -> x.rests(alike, alike), -1);
        }
        busy.leaves("the first and the last", x -> x.rests(0, 2), 1);
        new Alike(Towns::full).leaves("a fifth", x -> x.rests(3, 4), -1);
        Told.due("the last two", Towns.full().rests(3, 2), 1);
        new Alike(ThiefTakers::new).leaves("in no town", x -> x.rests(0, 1), -1);
    }

    /** Two who had so much, the one and the other. */
    private static ThiefTakers had(int first, int second) {
        ThiefTakers x = Told.of("corner a 0 999;corner b 0 999;thief s a 9;thief t b 0;law stir 0;law take "
                + "(bold=9)*(" + first + "-had)+(bold=0)*(" + second + "-had);");
        x.go(4);
        return x;
    }

    private static void promise35_rests_both100AreAsMuchAsTalking() {
        Told.due("nothing had", had(0, 0).rests(0, 1), 1);
        Told.due("99", had(99, 0).rests(0, 1), 1);
        Told.due("99 of both", had(49, 50).rests(0, 1), 1);
        Told.due("100", had(100, 0).rests(0, 1), 2);
        Told.due("100 of both", had(50, 50).rests(1, 0), 2);
        Told.due("101", had(50, 51).rests(1, 0), 2);
        Told.due("much", had(300, 300).rests(1, 0), 2);
    }

    private static void promise35_rests_caughtOrNot() {
        ThiefTakers x = Told.of("corner a 0 999;corner b 0 999;lane a b;guard g b;thief s a 9;thief t a 0;"
                + "law take 50;law stir hour;law dread 0-guards;");
        x.go(1);
        Told.due("100, both free", x.rests(0, 1) * 10 + x.count(6), 20);
        x.go(1);
        Told.due("100, both caught", x.rests(0, 1) * 10 + x.count(6), 22);
    }

    private static void promise36_rest_noSuchOnes() {
        Alike busy = new Alike(Towns::busy);
        for (int thief : Edges.beyond(0, 2)) {
            busy.leaves("one " + thief, x -> x.rest(thief, 0, 0), -1);
            busy.leaves("other " + thief, x -> x.rest(0, thief, 0), -1);
        }
        for (int k : new int[] {-1, -2, Integer.MIN_VALUE}) {
            busy.leaves("k " + k, x -> x.rest(0, 1, k), -1);
        }
        busy.leaves("alike", x -> x.rest(1, 1, 0), -1);
        new Alike(ThiefTakers::new).leaves("in no town", x -> x.rest(0, 1, 0), -1);
    }

    private static void promise36_rest_noSoMany() {
        ThiefTakers x = had(99, 0);
        Told.due("the only one", x.rest(0, 1, 0), 0);
        Told.due("no second", x.rest(0, 1, 1), -2);
        Told.due("no third", x.rest(0, 1, 2), -2);
        x = had(100, 0);
        Told.due("the first", x.rest(0, 1, 0), 0);
        Told.due("the second", x.rest(0, 1, 1), 11);
        Told.due("no third", x.rest(0, 1, 2), -2);
        for (int k : new int[] {3, 4, 31, 32, Integer.MAX_VALUE}) {
            Told.due("k " + k, x.rest(0, 1, k), -2);
        }
        Told.due("the other way round", x.rest(1, 0, 1), 11);
    }

    private static void promise37_holds_noSuchOnes() {
        Alike busy = new Alike(Towns::busy);
        busy.takes("n", 0, 6, (x, n) -> x.holds(n, 1), -1);
        busy.takes("what", 0, 1, (x, what) -> x.holds(2, what), -1);
        new Alike(ThiefTakers::new).takes("n", 0, 6, (x, n) -> x.holds(n, 0), -1);
    }

    private static void promise37_holds_0To6InLeastTerms() {
        int[] grips = {0, 1, 50, 75, 99, 100};
        long[] above6 = {0, 1, 1, 729, 941480149401L, 1};
        long[] below6 = {1, 1000000000000L, 64, 4096, 1000000000000L, 1};
        for (int k = 0; k < grips.length; k++) {
            ThiefTakers x = Told.of("grip " + grips[k] + ";");
            Told.due("none of " + grips[k] + " above", x.holds(0, 0), 1);
            Told.due("none of " + grips[k] + " below", x.holds(0, 1), 1);
            Told.due("six of " + grips[k] + " above", x.holds(6, 0), above6[k]);
            Told.due("six of " + grips[k] + " below", x.holds(6, 1), below6[k]);
        }
        Told.due("one of 0 above", Told.of("grip 0;").holds(1, 0), 0);
        Told.due("one of 0 below", Told.of("grip 0;").holds(1, 1), 1);
    }

    private static void promise38_see_noSuchOnes() {
        Alike busy = new Alike(Towns::busy);
        busy.takes("hours", 1, 60, (x, hours) -> x.see(hours, 0, 0, true), -1);
        busy.takes("thief", 0, 2, (x, thief) -> x.see(1, thief, 0, false), -1);
        busy.takes("corner", 0, 3, (x, corner) -> x.see(1, 0, corner, true), -1);
        Alike full = new Alike(Towns::full);
        full.takes("thief", 0, 3, (x, thief) -> x.see(60, thief, 9, false), -1);
        full.takes("corner", 0, 9, (x, corner) -> x.see(60, 3, corner, true), -1);
        new Alike(ThiefTakers::new).leaves("in no town", x -> x.see(1, 0, 0, true), -1);
    }

    /** So many facts, none of them wrong. */
    private static ThiefTakers facts(int many) {
        ThiefTakers x = Told.of("corner a 0 5;corner b 0 5;thief s a 1;law stir bold>4;law dread 0-light;");
        for (int k = 0; k < many; k++) {
            x.see(k + 1, 0, 0, true);
        }
        return x;
    }

    private static void promise38_see_24AtMost() {
        Told.due("the first", facts(0).see(1, 0, 0, true), 0);
        Told.due("the 23rd", facts(22).see(1, 0, 0, true), 22);
        Told.due("the 24th", facts(23).see(1, 0, 0, true), 23);
        new Alike(() -> facts(24)).leaves("a 25th", x -> x.see(1, 0, 1, true), -1);
        Told.due("24", facts(25).count(10), 24);
        ThiefTakers x = facts(22);
        x.strike(0);
        Told.due("those that strike count too", x.see(1, 0, 0, true), 23);
        Told.due("and no more", x.see(1, 0, 0, true), -1);
    }

    private static void promise38_see_ofThatThiefAtThatCorner() {
        for (int thief = 0; thief < 4; thief++) {
            for (int corner = 0; corner < 10; corner++) {
                for (boolean is : new boolean[] {true, false}) {
                    ThiefTakers x = Told.of(Towns.corners(10) + "thief s a 0;thief t d 0;thief u g 0;thief v j 0;law stir 0;");
                    x.see(60, thief, corner, is);
                    boolean so = corner == thief * 3 == is;
                    for (int asked = 0; asked < 4; asked++) {
                        Told.due(thief + (is ? " at " : " not at ") + corner + ", asked of " + asked, x.bolds(asked), so ? 1023 : 0);
                    }
                }
            }
        }
    }

    private static void promise38_see_theFirstAndTheLastHourCount() {
        // Who is bolder than 4 goes to b in that one hour.
        for (int hours : new int[] {1, 2, 59, 60}) {
            ThiefTakers x = Told.of("corner a 0 999;corner b 0 0;lane a b;thief s a 1;law take 0;"
                    + "law stir bold>4 and hour=" + (hours - 1) + ";law dread loot;");
            x.see(hours, 0, 1, true);
            Told.due("at b behind " + hours, x.bolds(0), 0b1111100000);
        }
    }

    private static void promise39_strike_noSuchFact() {
        Alike busy = new Alike(Towns::busy);
        busy.takes("strike", 0, 2, ThiefTakers::strike, -1);
        new Alike(() -> facts(0)).leaves("the first of none", x -> x.strike(0), -1);
        new Alike(() -> facts(1)).takes("strike", 0, 0, ThiefTakers::strike, -1);
        new Alike(ThiefTakers::new).leaves("in no town", x -> x.strike(0), -1);
    }

    private static void promise39_strike_24AtMost() {
        Told.due("the 23rd", facts(22).strike(0), 22);
        Told.due("the 24th", facts(23).strike(22), 23);
        Alike all = new Alike(() -> facts(24));
        all.leaves("a 25th", x -> x.strike(0), -1);
        all.leaves("a 25th that strikes the last", x -> x.strike(23), -1);
        all.leaves("a 25th that strikes none", x -> x.strike(24), -1);
        ThiefTakers x = facts(1);
        for (int k = 1; k < 24; k++) {
            Told.due("each strikes the one ahead", x.strike(k - 1), k);
        }
        Told.due("no more", x.strike(23), -1);
        Told.due("24", x.count(10), 24);
    }

    private static void promise39_strike_whatStrikesMayBeStruck() {
        // Fact 0 isn't so; each of those behind it strikes the one ahead: it is struck by every second one.
        for (int strikes = 0; strikes <= 23; strikes++) {
            ThiefTakers x = Told.of("corner a 0 5;corner b 0 5;thief s a 1;");
            x.see(1, 0, 1, true);
            for (int k = 0; k < strikes; k++) {
                x.strike(k);
            }
            Told.due(strikes + " strikes", x.bolds(0), strikes % 2 == 1 ? 1023 : 0);
        }
    }

    private static void promise39_strike_severalFactsAndOneSeveralTimes() {
        ThiefTakers x = Told.of("corner a 0 5;corner b 0 5;thief s a 1;");
        x.see(1, 0, 1, true);
        x.see(1, 0, 0, false);
        x.see(2, 0, 1, true);
        Told.due("three that aren't so", x.bolds(0), 0);
        x.strike(0);
        x.strike(1);
        Told.due("two of them struck", x.bolds(0), 0);
        x.strike(2);
        Told.due("all of them struck", x.bolds(0), 1023);
        x.strike(2);
        x.strike(6);
        Told.due("one strike of two is struck", x.bolds(0), 1023);
        x.strike(5);
        Told.due("both are", x.bolds(0), 0);
    }

    private static void promise39_strike_notLeftOfATextAhead() {
        ThiefTakers x = facts(2);
        x.strike(0);
        x.strike(1);
        x.text(0);
        Told.tell(x, "corner a 0 5;corner b 0 5;thief s a 1;");
        Told.due("none left", x.count(10), 0);
        for (int k = 0; k < 4; k++) {
            Told.due("anew", x.see(1, 0, k < 3 ? 0 : 1, true), k);
        }
        Told.due("the fourth one isn't so, nor does it strike", x.bolds(0), 0);
        x.known(3);
        Told.due("the third one is", x.bolds(0), 1023);
    }

    private static void promise40_known_noSuchN() {
        Alike busy = new Alike(Towns::busy);
        for (int n : Edges.beyond(-1, 3)) {
            busy.leaves("known(" + n + ") of 3", x -> x.known(n) ? 1 : 0, 0);
        }
        for (int n = -1; n <= 3; n++) {
            ThiefTakers x = Towns.busy();
            Told.due("known(" + n + ") of 3", x.known(n), true);
            Told.due("by so many", x.count(11), n < 0 ? 3 : n);
        }
        Alike none = new Alike(ThiefTakers::new);
        none.leaves("known(1) of none", x -> x.known(1) ? 1 : 0, 0);
        none.leaves("known(-2) of none", x -> x.known(-2) ? 1 : 0, 0);
        Told.due("known(0) of none", new ThiefTakers().known(0), true);
        Told.due("known(-1) of none", new ThiefTakers().known(-1), true);
        Told.due("known(24) of 24", facts(24).known(24), true);
        new Alike(() -> facts(24)).leaves("known(25) of 24", x -> x.known(25) ? 1 : 0, 0);
    }

    private static void promise40_known_byAllAlsoThoseToCome() {
        ThiefTakers x = facts(1);
        Told.due("all at first", x.count(11), 1);
        x.see(1, 0, 1, true);
        Told.due("and the next one", x.count(11) * 10000 + x.bolds(0), 20000);
        x.known(2);
        x.strike(1);
        Told.due("by two: what strikes isn't one of these", x.count(11) * 10000 + x.bolds(0), 20000);
        x.known(1);
        Told.due("by one", x.count(11) * 10000 + x.bolds(0), 11023);
        x.known(0);
        Told.due("by none", x.count(11) * 10000 + x.bolds(0), 1023);
        x.known(3);
        Told.due("by three", x.count(11) * 10000 + x.bolds(0), 31023);
        x.known(-1);
        x.strike(2);
        Told.due("by all: what strikes is struck", x.count(11) * 10000 + x.bolds(0), 40000);
    }

    private static void promise41_bolds_noSuchThief() {
        new Alike(Towns::busy).takes("bolds", 0, 2, ThiefTakers::bolds, -1);
        new Alike(Towns::full).takes("bolds", 0, 3, ThiefTakers::bolds, -1);
        new Alike(ThiefTakers::new).leaves("in no town", x -> x.bolds(0), -1);
    }

    private static void promise41_bolds_0To9() {
        Told.due("no facts", facts(0).bolds(0), 1023);
        for (int bold = 0; bold <= 9; bold++) {
            ThiefTakers x = Told.of("corner a 0 9;corner b 0 0;lane a b;thief s a 5;law stir bold=" + bold + ";law dread loot;"
                    + "law take 0;");
            x.see(1, 0, 1, true);
            Told.due("only " + bold, x.bolds(0), 1 << bold);
            x.known(0);
            x.see(1, 0, 1, false);
            x.strike(0);
            x.known(-1);
            Told.due("all but " + bold, x.bolds(0), 1023 & ~(1 << bold));
            x.see(1, 0, 1, true);
            Told.due("none", x.bolds(0), 0);
        }
    }

    private static void promise41_bolds_fromTheTextOnNothingDoneByCall() {
        String town = "corner a 0 9;corner b 0 0;corner c 0 0;lane a b;guard g c;thief s a 5;law stir bold>2;law dread loot;law take 0;";
        ThiefTakers x = Told.of(town);
        x.see(1, 0, 1, true);
        int due = x.bolds(0);
        Told.due("bolder than 2", due, 0b1111111000);
        x.bar(0);
        Told.due("barred", x.bolds(0), due);
        x.drop(1, 99);
        Told.due("dropped", x.bolds(0), due);
        x.go(5);
        Told.due("five hours on", x.bolds(0), due);
        x.keep();
        x.back();
        Told.due("back", x.bolds(0), due);
    }

    private static void promise41_bolds_notAgainstSteps() {
        ThiefTakers x = Told.of("corner a 9 0;corner b 0 0;corner c 0 0;steps b a;lane a c;thief s a 5;law dread light-loot*0;");
        x.see(1, 0, 2, true);
        Told.due("by the lane", x.bolds(0), 1023);
        x.see(1, 0, 1, true);
        Told.due("not back along the steps", x.bolds(0), 0);
        x.bar(1);
        x.known(1);
        Told.due("as the text has it", x.bolds(0), 1023);
    }

    private static void promise41_bolds_asItGoesByGripsOf50() {
        for (int grip : new int[] {0, 1, 49, 50, 51, 99, 100}) {
            ThiefTakers x = Told.of("corner a 0 9;corner b 0 0;lane a b;guard g a;thief s a 5;law stir hour;law dread loot;law take 0;"
                    + "seed 3;grip " + grip + ";");
            x.see(2, 0, 0, true);
            Told.due("caught at a, grip " + grip, x.bolds(0), grip >= 50 ? 1023 : 0);
            x.see(2, 0, 1, true);
            x.known(0);
            x.strike(0);
            x.known(-1);
            Told.due("gone to b, grip " + grip, x.bolds(0), grip >= 50 ? 0 : 1023);
        }
    }

    private static void promise41_bolds_whatIsTriedOfOneIsntLeft() {
        for (int thief = 0; thief < 4; thief++) {
            ThiefTakers x = Told.of(Towns.FULL);
            int had = x.ahead(3, 1, thief);
            int loot = x.ahead(9, 2, 0);
            x.bolds(thief);
            Told.due("bolds of " + thief + ", had", x.ahead(3, 1, thief), had);
            x.ask(thief, 1);
            Told.due("ask of " + thief + ", had", x.ahead(3, 1, thief), had);
            Told.due("ask of " + thief + ", loot", x.ahead(9, 2, 0), loot);
            Told.due("bold of " + thief, x.thief(thief, 1), thief + 1);
        }
    }

    private static void promise41_bolds_askedAllStays() {
        Alike busy = new Alike(Towns::busy);
        busy.asked("bolds", x -> x.bolds(0));
        busy.asked("hour to ask", x -> x.ask(0, 0));
        busy.asked("left at worst", x -> x.ask(2, 1));
    }

    private static void promise42_ask_noSuchOnes() {
        Alike busy = new Alike(Towns::busy);
        busy.takes("thief", 0, 2, (x, thief) -> x.ask(thief, 0), -1);
        busy.takes("what", 0, 1, (x, what) -> x.ask(0, what), -1);
        new Alike(Towns::full).takes("thief", 0, 3, (x, thief) -> x.ask(thief, 1), -1);
        new Alike(ThiefTakers::new).leaves("in no town", x -> x.ask(0, 0), -1);
    }

    private static void promise42_ask_ifThereAreNone() {
        ThiefTakers x = Told.of("corner a 0 9;corner b 0 0;thief s a 5;");
        x.see(1, 0, 1, true);
        Told.due("none", x.bolds(0), 0);
        Told.due("the first hour", x.ask(0, 0), 1);
        Told.due("none left", x.ask(0, 1), 0);
    }

    private static void promise42_ask_hours1To60() {
        for (int hour : new int[] {1, 2, 59, 60}) {
            ThiefTakers x = Told.of("corner a 0 999;thief s a 5;law take bold*(hour=" + (hour - 1) + ");");
            Told.due("in hour " + hour, x.ask(0, 0), hour);
            Told.due("one is left", x.ask(0, 1), 1);
        }
        ThiefTakers x = Told.of("corner a 0 999;thief s a 5;law take bold*(hour=60);");
        Told.due("behind 60 hours all have as much: the first", x.ask(0, 0), 1);
        Told.due("all are left", x.ask(0, 1), 10);
    }

    private static void promise42_ask_fewestLeftAtWorst() {
        for (int kinds = 1; kinds <= 10; kinds++) {
            ThiefTakers x = Told.of("corner a 0 999;thief s a 5;law take bold-bold/" + kinds + "*" + kinds + ";");
            Told.due("so many alike by rests of " + kinds, x.ask(0, 1), (9 + kinds) / kinds);
        }
        ThiefTakers x = Told.of("corner a 0 9;corner b 0 0;lane a b;thief s a 5;law stir bold>0;law dread loot;law take 0;");
        x.see(1, 0, 0, true);
        Told.due("one of BOLDS: the first hour", x.ask(0, 0) * 10 + x.ask(0, 1), 11);
    }

    private static void promise42_ask_amongAnyOfBolds() {
        for (int bold = 0; bold <= 9; bold++) {
            String only = "corner a 0 999;corner b 0 0;lane a b;thief s a 5;law dread loot;law stir ";
            ThiefTakers x = Told.of(only + "bold=" + bold + ";");
            x.see(1, 0, 1, true);
            Told.due("only " + bold, x.ask(0, 0) * 10 + x.ask(0, 1), 11);
            x = Told.of(only + "0;law take bold=" + bold + ";");
            Told.due("as much but for " + bold, x.ask(0, 0) * 10 + x.ask(0, 1), 19);
            x = Told.of(only + "0;law take (bold>=" + bold + ")*9;");
            Told.due("as much from " + bold + " on", x.ask(0, 1), Math.max(bold, 10 - bold));
            x = Told.of(only + "bold>=" + bold + ";law take 0;");
            x.see(60, 0, 1, bold % 2 == 1);
            x.see(1, 0, 1, false);
            Told.due("of all that stay or of none", x.ask(0, 1), bold % 2 == 1 ? 0 : bold);
        }
    }
}
