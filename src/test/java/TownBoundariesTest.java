/** Promises 6 to 20 at their edges: the town as it is, laws, calls that change it, hours, what comes, ways. */
public final class TownBoundariesTest {
    private static final long ERROR = Long.MIN_VALUE;
    private static final String TRILLION = "1000*1000*1000*1000";

    public static void main(String[] args) {
        Promises.run(TownBoundariesTest.class, 6, 20, args);
    }

    private static void promise6_corner_noSuchCorner() {
        Alike full = new Alike(Towns::full);
        for (int corner : Edges.beyond(0, 9)) {
            full.leaves("corner " + corner + " of 10", x -> Told.thrownByCorner(x, corner, 0), 1);
        }
        Alike busy = new Alike(Towns::busy);
        for (int corner : Edges.beyond(0, 3)) {
            busy.leaves("corner " + corner + " of 4", x -> Told.thrownByCorner(x, corner, 4), 1);
        }
        for (int corner : Edges.within(0, 3)) {
            busy.leaves("corner " + corner + " of 4", x -> Told.thrownByCorner(x, corner, 4), 0);
        }
        Told.due("the last of 10", Told.thrownByCorner(Towns.full(), 9, 4), 0);
        new Alike(ThiefTakers::new).leaves("the first of none", x -> Told.thrownByCorner(x, 0, 0), 1);
    }

    private static void promise6_corner_noSuchWhat() {
        Alike busy = new Alike(Towns::busy);
        for (int what : Edges.beyond(0, 4)) {
            busy.leaves("what " + what, x -> Told.thrownByCorner(x, 0, what), 2);
            busy.leaves("what " + what + " of the last", x -> Told.thrownByCorner(x, 3, what), 2);
        }
        for (int what = 0; what <= 4; what++) {
            Told.due("what " + what, Told.thrownByCorner(Towns.busy(), 0, what), 0);
        }
    }

    private static void promise6_corner_noCornerComesAheadOfNoWhat() {
        for (int what : Edges.beyond(0, 4)) {
            Told.due("neither", Told.thrownByCorner(Towns.busy(), 4, what), 1);
            Told.due("neither", Told.thrownByCorner(Towns.busy(), -1, what), 1);
            Told.due("neither, in no town", Told.thrownByCorner(new ThiefTakers(), 0, what), 1);
        }
    }

    private static void promise6_corner_onlyFreeThievesAreThere() {
        ThiefTakers x = Told.of("corner a 0 9;corner b 0 9;guard g a;thief s a 0;thief t b 0;thief u a 0;thief v b 0;law stir 0;");
        Told.due("all four", x.corner(0, 3) * 100 + x.corner(1, 3), 510);
        x.go(1);
        Told.due("the caught ones are not", x.corner(0, 3), 0);
        Told.due("the free ones are", x.corner(1, 3), 10);
        Told.due("the guard is", x.corner(0, 2), 1);
    }

    private static void promise6_corner_noneOrAllAreThere() {
        ThiefTakers x = Told.of("corner a 9 999;guard g a;guard h a;guard i a;thief s a 0;thief t a 0;thief u a 0;thief v a 0;");
        Told.due("no guards", Told.of("corner a 0 0;").corner(0, 2), 0);
        Told.due("no thieves", Told.of("corner a 0 0;").corner(0, 3), 0);
        Told.due("next to none", Told.of("corner a 0 0;").corner(0, 4), 0);
        Told.due("three guards", x.corner(0, 2), 7);
        Told.due("four thieves", x.corner(0, 3), 15);
        Told.due("next to all others", Told.of(Towns.corners(10) + Towns.lanes("ja jb jc jd je jf jg jh ji")).corner(9, 4), 511);
    }

    private static void promise6_corner_thoseElsewhereArent() {
        ThiefTakers x = Told.of(Towns.corners(4) + "guard g a;guard h b;guard i b;thief s b 0;thief t c 0;thief u c 0;thief v a 0;");
        int[] guards = {1, 6, 0, 0};
        int[] thieves = {8, 1, 6, 0};
        for (int corner = 0; corner < 4; corner++) {
            Told.due("guards at " + corner, x.corner(corner, 2), guards[corner]);
            Told.due("thieves at " + corner, x.corner(corner, 3), thieves[corner]);
        }
    }

    private static void promise6_corner_nextAsLongAsOneLaneIsntBarred() {
        ThiefTakers x = Told.of(Towns.corners(3) + "lane a b;steps a b;steps b a;steps c a;");
        int[] barred = {9, 0, 1, 2, 3, 0, 3};
        int[][] nexts = {{2, 1, 1}, {2, 1, 1}, {0, 1, 1}, {0, 0, 1}, {0, 0, 0}, {2, 1, 0}, {2, 1, 1}};
        for (int k = 0; k < barred.length; k++) {
            x.bar(barred[k]);
            for (int corner = 0; corner < 3; corner++) {
                Told.due("next to " + corner + " behind bar " + k, x.corner(corner, 4), nexts[k][corner]);
            }
        }
    }

    private static void promise6_corner_nextByTwoLanesIsAsByOne() {
        for (String lanes : new String[] {"steps a b;lane b a;", "steps b a;lane a b;", "lane a b;steps a b;", "lane a b;steps b a;",
            "steps a b;steps b a;", "steps a b;steps b a;lane a b;", "lane b a;steps b a;steps a b;"}) {
            ThiefTakers x = Told.of(Towns.corners(2) + lanes);
            Told.due("next to a by " + lanes, x.corner(0, 4), 2);
            Told.due("next to b by " + lanes, x.corner(1, 4), 1);
        }
    }

    private static void promise7_guard_noSuchOnes() {
        new Alike(Towns::busy).takes("guard", 0, 1, (x, guard) -> x.guard(guard, 0), -1);
        new Alike(Towns::full).takes("guard", 0, 2, (x, guard) -> x.guard(guard, 1), -1);
        new Alike(Towns::busy).takes("what", 0, 2, (x, what) -> x.guard(1, what), -1);
        new Alike(ThiefTakers::new).leaves("the first of none", x -> x.guard(0, 0), -1);
    }

    private static void promise7_guard_withoutABeat() {
        ThiefTakers x = Told.of("corner a 0 0;corner b 0 0;lane a b;guard g a;guard h a;beat h a;");
        Told.due("no beat", x.guard(0, 1), -2);
        Told.due("a beat of one", x.guard(1, 1), 0);
        x.go(3);
        Told.due("still none", x.guard(0, 1), -2);
        Told.due("still the first", x.guard(1, 1), 0);
        Told.due("he stays", x.guard(0, 0), 0);
    }

    private static void promise7_guard_hisAimIsAtFirstTheFirst() {
        ThiefTakers x = Told.of(Towns.path(3) + "guard g a;beat g a b c;guard h c;beat h b a;guard i b;beat i c c c c c c c c;");
        for (int guard = 0; guard < 3; guard++) {
            Told.due("guard " + guard, x.guard(guard, 1), 0);
        }
        x.go(1);
        Told.due("who is there goes on", x.guard(0, 1), 1);
        Told.due("who comes there doesn't yet", x.guard(1, 1), 0);
        x.go(1);
        Told.due("but then", x.guard(1, 1) * 10 + x.guard(1, 0), 10);
        Told.due("the same corner again is the next place", x.guard(2, 1) * 10 + x.guard(2, 0), 12);
    }

    private static void promise7_guard_howManyHeCaught() {
        ThiefTakers x = Told.of("corner a 0 9;guard g a;guard h a;thief s a 0;thief t a 0;thief u a 0;thief v a 0;");
        Told.due("none yet", x.guard(0, 2), 0);
        x.go(1);
        Told.due("all four", x.guard(0, 2), 4);
        Told.due("none left", x.guard(1, 2), 0);
        x.go(5);
        Told.due("they are caught once", x.guard(0, 2) * 10 + x.guard(1, 2), 40);
    }

    private static void promise8_thief_noSuchOnes() {
        new Alike(Towns::busy).takes("thief", 0, 2, (x, thief) -> x.thief(thief, 0), -1);
        new Alike(Towns::full).takes("thief", 0, 3, (x, thief) -> x.thief(thief, 3), -1);
        new Alike(Towns::busy).takes("what", 0, 3, (x, what) -> x.thief(1, what), -1);
        new Alike(ThiefTakers::new).leaves("the first of none", x -> x.thief(0, 0), -1);
    }

    private static void promise8_thief_freeOrCaughtByTheFirst() {
        ThiefTakers x = Told.of("corner a 0 9;guard g a;guard h a;thief s a 0;");
        Told.due("free", x.thief(0, 3), -2);
        x.go(1);
        Told.due("caught by guard 0", x.thief(0, 3), 0);
        x = Told.of("corner a 0 9;corner b 0 9;guard g a;guard h a;guard i b;thief s b 0;");
        x.go(1);
        Told.due("caught by guard 2", x.thief(0, 3), 2);
    }

    private static void promise9_lane_noSuchOnes() {
        new Alike(Towns::busy).takes("lane", 0, 4, (x, lane) -> x.lane(lane, 3), -1);
        new Alike(Towns::full).takes("lane", 0, 19, (x, lane) -> x.lane(lane, 0), -1);
        new Alike(Towns::busy).takes("what", 0, 3, (x, what) -> x.lane(4, what), -1);
        new Alike(ThiefTakers::new).leaves("the first of none", x -> x.lane(0, 0), -1);
    }

    private static void promise9_lane_eachOfTwentyIsBarredAlone() {
        for (int barred : new int[] {0, 1, 18, 19}) {
            ThiefTakers x = Told.of(Towns.FULL);
            x.bar(barred);
            for (int lane = 0; lane < 20; lane++) {
                Told.due("lane " + lane + " while " + barred + " is barred", x.lane(lane, 3), lane == barred ? 1 : 0);
            }
        }
    }

    private static void promise9_lane_whetherSteps() {
        ThiefTakers x = Told.of(Towns.corners(10) + Towns.steps("ab") + Towns.lanes("bc cd de ef fg gh hi ij ja ac ad ae af ag ah ai bd be")
                + Towns.steps("ji"));
        for (int lane = 0; lane < 20; lane++) {
            Told.due("lane " + lane, x.lane(lane, 2), lane == 0 || lane == 19 ? 1 : 0);
        }
        Told.due("the last goes from j", x.lane(19, 0), 9);
        Told.due("to i", x.lane(19, 1), 8);
    }

    private static void promise10_law_noSuchOnes() {
        Alike busy = new Alike(Towns::busy);
        busy.takes("what", 0, 2, (x, what) -> x.law(what, 0, 0), ERROR);
        busy.takes("thief of dread", 0, 2, (x, thief) -> x.law(0, thief, 0), ERROR);
        busy.takes("thief of take", 0, 2, (x, thief) -> x.law(1, thief, 0), ERROR);
        busy.takes("thief of stir", 0, 2, (x, thief) -> x.law(2, thief, 0), ERROR);
        busy.takes("corner of dread", 0, 3, (x, corner) -> x.law(0, 0, corner), ERROR);
        new Alike(ThiefTakers::new).leaves("in no town", x -> x.law(0, 0, 0), ERROR);
    }

    private static void promise10_law_theCornerIsntLookedAtOfTakeAndStir() {
        Alike busy = new Alike(Towns::busy);
        long take = Towns.busy().law(1, 0, 0);
        long stir = Towns.busy().law(2, 0, 0);
        for (int corner : Edges.beyond(0, 3)) {
            busy.leaves("take, corner " + corner, x -> x.law(1, 0, corner), take);
            busy.leaves("stir, corner " + corner, x -> x.law(2, 0, corner), stir);
        }
    }

    private static void promise10_law_noSuchLaw() {
        String town = "corner a 0 0;thief t a 0;";
        String[] rules = {"dread", "take", "stir"};
        for (int told = 0; told < 3; told++) {
            ThiefTakers x = Told.of(town + "law " + rules[told] + " 7;");
            for (int asked = 0; asked < 3; asked++) {
                Told.due("law " + asked + " of " + rules[told], x.law(asked, 0, 0), asked == told ? 7 : ERROR);
            }
        }
    }

    private static void promise10_law_eachIsWorkedOutByItself() {
        String[] laws = {"not 0", "5", "1+2*3", "(not 5)", "7<8", "not not 3", "9-4", "(2)"};
        long[] worth = {1, 5, 7, 0, 1, 1, 5, 2};
        for (int first = 0; first < laws.length; first++) {
            for (int second = 0; second < laws.length; second++) {
                ThiefTakers x = Told.of("corner a 0 0;thief t a 0;law stir " + laws[first] + ";law take " + laws[second] + ";law dread 4;");
                Told.due("stir " + laws[first], x.law(2, 0, 0), worth[first]);
                Told.due("take " + laws[second] + " behind stir " + laws[first], x.law(1, 0, 0), worth[second]);
                Told.due("dread 4 behind both", x.law(0, 0, 0), 4);
            }
        }
    }

    private static void promise10_law_ofOneWhoIsCaught() {
        ThiefTakers x = Told.of("corner a 3 9;guard g a;thief t a 4;law take bold;");
        x.go(1);
        Told.due("take", x.law(1, 0, 0), 4);
    }

    private static void promise10_law_sumsUpTo10ToThe12() {
        Told.due("one less", Towns.worth(TRILLION + "-1+0"), 999999999999L);
        Told.due("just so much", Towns.worth(TRILLION + "-1+1"), 1000000000000L);
        Told.due("one more", Towns.worth(TRILLION + "+1"), ERROR);
        Told.due("one less below", Towns.worth("0-" + TRILLION + "+1"), -999999999999L);
        Told.due("just so much below", Towns.worth("0-" + TRILLION), -1000000000000L);
        Told.due("one more below", Towns.worth("0-" + TRILLION + "+(0-1)"), ERROR);
        Told.due("twice as much", Towns.worth(TRILLION + "+" + TRILLION), ERROR);
    }

    private static void promise10_law_differencesUpTo10ToThe12() {
        Told.due("one less", Towns.worth(TRILLION + "-1"), 999999999999L);
        Told.due("just so much", Towns.worth(TRILLION + "-1-(0-1)"), 1000000000000L);
        Told.due("one more", Towns.worth(TRILLION + "-(0-1)"), ERROR);
        Told.due("just so much below", Towns.worth("0-" + TRILLION + "-0"), -1000000000000L);
        Told.due("one more below", Towns.worth("0-" + TRILLION + "-1"), ERROR);
        Told.due("twice as much", Towns.worth("0-" + TRILLION + "-" + TRILLION), ERROR);
    }

    private static void promise10_law_sumsOfThoseBelow0() {
        Told.due("one less below", Towns.worth("(0-" + TRILLION + "+2)+(0-1)"), -999999999999L);
        Told.due("just so much below", Towns.worth("(0-" + TRILLION + "+1)+(0-1)"), -1000000000000L);
        Told.due("0 more below", Towns.worth("(0-" + TRILLION + ")+0"), -1000000000000L);
        Told.due("one more below", Towns.worth("(0-" + TRILLION + "+1)+(0-2)"), ERROR);
        Told.due("just so much", Towns.worth("(0-1)+" + TRILLION + "+1"), 1000000000000L);
        Told.due("one more", Towns.worth("(0-1)+" + TRILLION + "+2"), ERROR);
    }

    private static void promise10_law_productsUpTo10ToThe12() {
        String million = "(1000*1000)";
        Told.due("one less", Towns.worth("(1000*1000-1)*(1000*1000+1)"), 999999999999L);
        Told.due("just so much", Towns.worth(million + "*" + million), 1000000000000L);
        // 10001 and 99990001 make one more.
        Told.due("one more", Towns.worth("(9999+2)*(9999*(9999+1)+1)"), ERROR);
        Told.due("one less below", Towns.worth("(0-1000*1000+1)*(1000*1000+1)"), -999999999999L);
        Told.due("just so much below", Towns.worth("(0-" + million + ")*" + million), -1000000000000L);
        Told.due("one more below", Towns.worth("(9999+2)*(0-9999*(9999+1)-1)"), ERROR);
        Told.due("one more of two below", Towns.worth("(0-9999-2)*(0-9999*(9999+1)-1)"), ERROR);
        Told.due("just so much of two below", Towns.worth("(0-" + million + ")*(0-" + million + ")"), 1000000000000L);
        Told.due("0", Towns.worth("(" + TRILLION + ")*0"), 0);
        Told.due("0", Towns.worth("0*(" + TRILLION + ")"), 0);
    }

    private static void promise10_law_productsThatWouldWrapAround() {
        String two32 = "(256*256*256*256)";
        Told.due("2 to the 64", Towns.worth(two32 + "*" + two32), ERROR);
        Told.due("2 to the 63", Towns.worth(two32 + "*(256*256*256*128)"), ERROR);
        Told.due("2 to the 64 and some", Towns.worth(two32 + "*(" + two32 + "+1)"), ERROR);
        Told.due("10 to the 24", Towns.worth("(" + TRILLION + ")*(" + TRILLION + ")"), ERROR);
        Told.due("below", Towns.worth("(0-" + TRILLION + ")*(" + TRILLION + ")"), ERROR);
    }

    private static void promise10_law_quotientsAreCutTowards0() {
        String[] told = {"7/2", "(0-7)/2", "7/(0-2)", "(0-7)/(0-2)", "1/2", "(0-1)/2", "6/2", "0/5", "5/9", "9999/9999",
            "(" + TRILLION + ")/(0-1)", "(0-" + TRILLION + ")/(0-1)"};
        long[] due = {3, -3, -3, 3, 0, 0, 3, 0, 0, 1, -1000000000000L, 1000000000000L};
        for (int k = 0; k < told.length; k++) {
            Told.due(told[k], Towns.worth(told[k]), due[k]);
        }
    }

    private static void promise10_law_byZeroIsAnErrorOfTheWhole() {
        for (String told : new String[] {"1/0", "0/0", "(0-1)/0", "1/(1-1)", "1 or 1/0", "0 and 1/0", "1/0 or 1", "not 1/0", "1/0*0",
            "0*(1/0)", "1/0=1/0", "(1/0)-(1/0)", "bold/had", "1/bold"}) {
            Told.due(told, Towns.worth(told), ERROR);
        }
        Told.due("by 1", Towns.worth("1/1"), 1);
        Told.due("by 1 below 0", Towns.worth("1/(0-1)"), -1);
    }

    private static void promise10_law_anErrorOnTheWayIsOneAtTheEnd() {
        Told.due("too much, then less", Towns.worth(TRILLION + "+1-1"), ERROR);
        Told.due("too much, then not", Towns.worth("not " + TRILLION + "*2"), ERROR);
        Told.due("too much, then compared", Towns.worth("0<" + TRILLION + "*2"), ERROR);
    }

    private static void promise10_law_comparisonsAtTheEdge() {
        String[] signs = {"<", "<=", "=", "<>", ">=", ">"};
        int[] less = {1, 1, 0, 1, 0, 0};
        int[] same = {0, 1, 1, 0, 1, 0};
        int[] more = {0, 0, 0, 1, 1, 1};
        for (int k = 0; k < signs.length; k++) {
            Told.due("4" + signs[k] + "5", Towns.worth("4" + signs[k] + "5"), less[k]);
            Told.due("5" + signs[k] + "5", Towns.worth("5" + signs[k] + "5"), same[k]);
            Told.due("6" + signs[k] + "5", Towns.worth("6" + signs[k] + "5"), more[k]);
        }
    }

    private static void promise10_law_whatBindsTighterComesFirst() {
        String[] told = {"1 or 0 and 0", "1 or 1 and 0", "0 and 0 or 1", "(1 or 0) and 0", "(0 or 1)*3", "(0 and 1 or 1)*3", "not 0 and 0",
            "not 1 or 1", "not 0=1", "(not 0)=1", "not 2>1", "1+1=2", "2=1+1", "1<2 and 2<1 or 1", "2*3=6", "7-2-1", "7-(2-1)", "8/4/2",
            "8/(4/2)", "8/4*2", "2*7/3", "2*(7/3)", "1+2*3", "(1+2)*3", "10-2*3+1", "7-6/2", "(1<2)+(2<3)", "1<2+2", "not 1<2", "not not 7",
            "1 and not 0", "0 or not 0 and 0", "3-2-1 or 0", "9-3*3 and 1"};
        long[] due = {1, 1, 1, 0, 3, 3, 0, 1, 1, 1, 0, 1, 1, 1, 1, 4, 6, 1, 4, 4, 4, 4, 7, 9, 5, 4, 2, 1, 0, 1, 1, 0, 0, 0};
        for (int k = 0; k < told.length; k++) {
            Told.due(told[k], Towns.worth(told[k]), due[k]);
        }
    }

    private static void promise10_law_whatIsnt0IsAs1() {
        String[] sides = {"(0-1)", "0", "1", "2", "(" + TRILLION + ")"};
        for (String left : sides) {
            boolean isLeft = !left.equals("0");
            Told.due("not " + left, Towns.worth("not " + left), isLeft ? 0 : 1);
            for (String right : sides) {
                boolean isRight = !right.equals("0");
                Told.due(left + " and " + right, Towns.worth(left + " and " + right), isLeft && isRight ? 1 : 0);
                Told.due(left + " or " + right, Towns.worth(left + " or " + right), isLeft || isRight ? 1 : 0);
            }
        }
    }

    private static void promise10_law_farIs99WhereNoneLeads() {
        String law = "thief t a 0;law dread far;";
        Told.due("no guards", Told.of(Towns.path(10) + law).law(0, 0, 0), 99);
        ThiefTakers x = Told.of(Towns.path(10) + "guard g j;" + law);
        for (int corner = 0; corner < 10; corner++) {
            Told.due("corner " + corner, x.law(0, 0, corner), 9 - corner);
        }
        x.bar(8);
        Told.due("barred", x.law(0, 0, 8), 99);
        Told.due("where he is", x.law(0, 0, 9), 0);
        x = Told.of(Towns.corners(3) + "steps a b;guard g b;guard h c;" + law);
        Told.due("steps don't lead back", x.law(0, 0, 0), 99);
        Told.due("the nearest", Told.of(Towns.path(5) + "guard g a;guard h d;" + law).law(0, 0, 2), 1);
    }

    private static void promise10_law_namesAtTheirEdges() {
        String guards = "guard g a;guard h a;guard i a;";
        ThiefTakers x = Told.of("corner a 9 999;corner b 0 0;lane a b;" + guards + "thief t a 9;thief u b 0;grip 0;law stir 0;"
                + "law dread light*1000+loot;law take bold*10+guards;");
        Told.due("the brightest and richest", x.law(0, 0, 0), 9999);
        Told.due("the darkest and poorest", x.law(0, 0, 1), 0);
        Told.due("the boldest with all guards", x.law(1, 0, 0), 93);
        Told.due("the least bold with none", x.law(1, 1, 0), 0);
        for (int k = 0; k < 10; k++) {
            x.drop(0, 999);
        }
        Told.due("the most loot", x.law(0, 0, 0), 18999);
    }

    private static void promise10_law_hadAndHourFrom0On() {
        ThiefTakers x = Told.of("corner a 0 3;thief t a 1;law dread had*9999+hour;law stir 0;");
        Told.due("at first", x.law(0, 0, 0), 0);
        x.go(1);
        Told.due("behind one hour", x.law(0, 0, 0), 2 * 9999 + 1);
        x.go(1);
        Told.due("behind two", x.law(0, 0, 0), 3 * 9999 + 2);
        for (int k = 0; k < 48; k++) {
            x.go(200);
        }
        x.go(198);
        Told.due("in the last hour", x.law(0, 0, 0), 3 * 9999 + 9800);
    }

    private static void promise11_send_noSuchOnes() {
        Alike busy = new Alike(Towns::busy);
        for (int guard : Edges.beyond(0, 1)) {
            busy.leaves("guard " + guard, x -> x.send(guard, 0) ? 1 : 0, 0);
        }
        for (int corner : Edges.beyond(0, 3)) {
            busy.leaves("corner " + corner, x -> x.send(0, corner) ? 1 : 0, 0);
        }
        new Alike(ThiefTakers::new).leaves("in no town", x -> x.send(0, 0) ? 1 : 0, 0);
        Alike full = new Alike(Towns::full);
        full.leaves("a fourth guard", x -> x.send(3, 0) ? 1 : 0, 0);
        full.leaves("an eleventh corner", x -> x.send(0, 10) ? 1 : 0, 0);
    }

    private static void promise11_send_toACornerNextToHis() {
        ThiefTakers x = Told.of(Towns.path(4) + "steps d a;guard g a;");
        Told.due("his own", x.send(0, 0), false);
        Told.due("two far", x.send(0, 2), false);
        Told.due("against steps", x.send(0, 3), false);
        Told.due("where he is still", x.guard(0, 0), 0);
        Told.due("nothing to undo", x.count(12), 0);
        Told.due("next to his", x.send(0, 1), true);
        Told.due("where he is then", x.guard(0, 0), 1);
        x.bar(1);
        Told.due("barred", x.send(0, 2), false);
        x.bar(1);
        Told.due("no more barred", x.send(0, 2) && x.send(0, 3), true);
        Told.due("along steps", x.send(0, 0), true);
    }

    private static void promise11_send_heKeepsHisAim() {
        ThiefTakers x = Told.of(Towns.path(4) + "guard g a;beat g b d;");
        x.go(2);
        Told.due("he was at b, and goes to d", x.guard(0, 1) * 10 + x.guard(0, 0), 12);
        Told.due("sent back to b", x.send(0, 1), true);
        Told.due("d is still his aim", x.guard(0, 1), 1);
        Told.due("sent back to a", x.send(0, 0), true);
        x.go(1);
        Told.due("by b", x.guard(0, 1) * 10 + x.guard(0, 0), 11);
        x.go(2);
        Told.due("to d", x.guard(0, 1) * 10 + x.guard(0, 0), 13);
        x = Told.of(Towns.path(2) + "guard g a;guard h a;beat h b a;");
        x.send(0, 1);
        x.send(1, 1);
        x.go(3);
        Told.due("without a beat he stays where he was sent", x.guard(0, 0), 1);
        Told.due("sent to his aim: the next place is", x.guard(1, 1) * 10 + x.guard(1, 0), 10);
    }

    private static void promise11_send_refusedItLeavesAll() {
        Alike busy = new Alike(Towns::busy);
        busy.leaves("his own corner", x -> x.send(0, 2) ? 1 : 0, 0);
        Alike apart = new Alike(() -> Told.of(Towns.path(3) + "guard g a;beat g c a;thief t c 1;"));
        apart.leaves("two far", x -> x.send(0, 2) ? 1 : 0, 0);
        apart.leaves("sent and undone", x -> (x.send(0, 1) ? 10 : 0) + x.undo(), 10);
    }

    private static void promise12_bar_noSuchLane() {
        Alike busy = new Alike(Towns::busy);
        for (int lane : Edges.beyond(0, 4)) {
            busy.leaves("lane " + lane, x -> x.bar(lane), -1);
        }
        Alike full = new Alike(Towns::full);
        for (int lane : Edges.beyond(0, 19)) {
            full.leaves("lane " + lane + " of 20", x -> x.bar(lane), -1);
        }
        new Alike(ThiefTakers::new).leaves("in no town", x -> x.bar(0), -1);
        Told.due("the last of 20", Towns.full().bar(19), 1);
        Told.due("the first of 20, barred already", Towns.full().bar(0), 0);
    }

    private static void promise12_bar_andBarAgain() {
        Alike busy = new Alike(Towns::busy);
        busy.leaves("barred and undone", x -> x.bar(1) * 10 + x.undo(), 13);
        busy.leaves("no more barred and undone", x -> x.bar(3) * 10 + x.undo(), 3);
        ThiefTakers x = Told.of(Towns.FULL);
        for (int lane = 0; lane < 20; lane++) {
            Told.due("bar " + lane, x.bar(lane), 1);
            Told.due("so many", x.count(9), lane + 1);
        }
        Told.due("next to none", x.corner(0, 4), 0);
        for (int lane = 0; lane < 20; lane++) {
            Told.due("bar " + lane + " again", x.bar(lane), 0);
            Told.due("so many", x.count(9), 19 - lane);
        }
    }

    private static void promise13_drop_noSuchCorner() {
        Alike busy = new Alike(Towns::busy);
        for (int corner : Edges.beyond(0, 3)) {
            busy.leaves("corner " + corner, x -> x.drop(corner, 1), -1);
        }
        new Alike(Towns::full).leaves("an eleventh", x -> x.drop(10, 1), -1);
        new Alike(ThiefTakers::new).leaves("in no town", x -> x.drop(0, 1), -1);
        Told.due("the last", Towns.busy().drop(3, 1), 8);
    }

    private static void promise13_drop_1To999() {
        Alike busy = new Alike(Towns::busy);
        for (int loot : Edges.beyond(1, 999)) {
            busy.leaves("loot " + loot, x -> x.drop(0, loot), -1);
        }
        for (int loot : Edges.within(1, 999)) {
            Told.due("loot " + loot, Towns.busy().drop(3, loot), 7 + loot);
        }
        busy.leaves("dropped and undone", x -> x.drop(2, 999) * 10 + x.undo(), 9993);
    }

    private static ThiefTakers with9990() {
        ThiefTakers x = Told.of("corner a 0 0;");
        for (int k = 0; k < 10; k++) {
            x.drop(0, 999);
        }
        return x;
    }

    private static void promise13_drop_9999AtMost() {
        Told.due("9998", with9990().drop(0, 8), 9998);
        Told.due("9999", with9990().drop(0, 9), 9999);
        Told.due("10000 is cut", with9990().drop(0, 10), 9999);
        Told.due("much more is cut", with9990().drop(0, 999), 9999);
        ThiefTakers x = with9990();
        x.drop(0, 9);
        Told.due("at 9999", x.drop(0, 1), 9999);
        Told.due("all the loot", x.count(7), 9999);
        Told.due("one too much is refused all the same", x.drop(0, 1000), -1);
        Told.due("undone", x.undo() * 10000 + x.corner(0, 1), 119999);
        Told.due("undone", x.undo() * 10000 + x.corner(0, 1), 109990);
    }

    private static void promise14_go_0To200Hours() {
        Alike busy = new Alike(Towns::busy);
        for (int n : Edges.beyond(0, 200)) {
            busy.leaves("go(" + n + ")", x -> x.go(n), -1);
        }
        for (int n : Edges.within(0, 200)) {
            Told.due("go(" + n + ")", Towns.busy().go(n), 3 + n);
        }
        busy.leaves("go(0)", x -> x.go(0), 3);
    }

    /** An object in that hour, with something to undo and an image. */
    private static ThiefTakers inHour(int hour) {
        ThiefTakers x = Told.of(Towns.BUSY);
        for (int k = 0; k < hour / 200; k++) {
            x.go(200);
        }
        x.go(hour % 200);
        x.keep();
        x.drop(1, 5);
        return x;
    }

    private static void promise14_go_endsAt9800AtMost() {
        int[] hours = {9600, 9600, 9601, 9601, 9601, 9799, 9799, 9799, 9800, 9800, 9800};
        int[] n = {199, 200, 198, 199, 200, 0, 1, 2, 0, 1, 200};
        for (int k = 0; k < hours.length; k++) {
            int end = hours[k] + n[k];
            Told.due("go(" + n[k] + ") in " + hours[k], inHour(hours[k]).go(n[k]), end <= 9800 ? end : -1);
        }
    }

    private static void promise14_go_behind9800NoneGoesBy() {
        new Alike(() -> inHour(9700)).leaves("go(101) in 9700", x -> x.go(101), -1);
        new Alike(() -> inHour(9799)).leaves("go(2) in 9799", x -> x.go(2), -1);
        new Alike(() -> inHour(9800)).leaves("go(1) in 9800", x -> x.go(1), -1);
        new Alike(() -> inHour(9800)).leaves("go(0) in 9800", x -> x.go(0), 9800);
    }

    private static void promise14_go_behindTheLastPlaceOfABeatComesTheFirst() {
        ThiefTakers x = Told.of(Towns.path(2) + "guard g a;beat g a b a b a b a b;guard h a;beat h a;guard i a;beat i b a;");
        for (int hour = 1; hour <= 24; hour++) {
            x.go(1);
            Told.due("eight places", x.guard(0, 1) * 10 + x.guard(0, 0), hour % 8 * 10 + hour % 2);
            Told.due("one place", x.guard(1, 1) * 10 + x.guard(1, 0), 0);
            Told.due("two places", x.guard(2, 1) * 10 + x.guard(2, 0), hour % 2 == 1 ? 1 : 10);
        }
    }

    private static void promise14_go_whereNoLaneLeadsToTheAimHeStays() {
        ThiefTakers x = Told.of(Towns.corners(3) + "lane a b;steps c b;guard g a;beat g c;");
        x.go(3);
        Told.due("he stays", x.guard(0, 0), 0);
        Told.due("and keeps his aim", x.guard(0, 1), 0);
        x = Told.of(Towns.path(3) + "guard g a;beat g c a;");
        x.bar(1);
        x.go(2);
        Told.due("barred: not even to b", x.guard(0, 0), 0);
        x.bar(1);
        x.go(2);
        Told.due("there", x.guard(0, 0), 2);
    }

    private static void promise14_go_lessFarAlongStepsNotAgainstThem() {
        ThiefTakers x = Told.of(Towns.corners(5) + Towns.steps("ab bc cd de ea") + "guard g a;beat g e a;");
        for (int hour = 1; hour <= 10; hour++) {
            x.go(1);
            Told.due("round the ring in hour " + hour, x.guard(0, 0), hour % 5);
        }
        // From b to e it is one lane by c or d, but a, to which a lane leads too, is as far from e as b is.
        x = Told.of(Towns.corners(5) + "lane a b;lane b d;steps c b;steps c e;lane d e;steps e a;guard g b;beat g e;");
        x.go(1);
        Told.due("by d", x.guard(0, 0), 3);
        x.go(1);
        Told.due("at e", x.guard(0, 0), 4);
    }

    private static void promise14_go_theFirstOfSeveralCornersThatAreLessFar() {
        ThiefTakers x = Told.of(Towns.corners(5) + Towns.lanes("ed dc cb ea ab") + "guard g e;beat g b;");
        x.go(1);
        Told.due("a lies two lanes ahead, d three", x.guard(0, 0), 0);
        x = Told.of(Towns.corners(4) + Towns.lanes("dc db ca ba") + "guard g d;beat g a;");
        x.go(1);
        Told.due("b ahead of c", x.guard(0, 0), 1);
    }

    private static void promise14_go_oneStirsUnlessStirIs0() {
        String town = "corner a 0 0;corner b 9 0;lane a b;thief t b 0;law dread light;";
        String[] stirs = {"", "law stir 0;", "law stir 1;", "law stir 0-1;", "law stir 1/0;", "law stir " + TRILLION + ";",
            "law stir " + TRILLION + "+1;", "law stir hour;"};
        int[] places = {0, 1, 0, 0, 0, 0, 0, 1};
        for (int k = 0; k < stirs.length; k++) {
            ThiefTakers x = Told.of(town + stirs[k]);
            x.go(1);
            Told.due(stirs[k], x.thief(0, 0), places[k]);
        }
    }

    private static void promise14_go_ofSeveralHisOwnThenTheFirst() {
        String town = Towns.path(3) + "thief t b 0;";
        for (String law : new String[] {"law dread 0;", "law dread 1/0;", ""}) {
            ThiefTakers x = Told.of(town + law);
            x.go(1);
            Told.due("his own, " + law, x.thief(0, 0), 1);
        }
        ThiefTakers x = Told.of("corner a 1 0;corner b 2 0;corner c 1 0;lane b c;lane b a;thief t b 0;law dread light;");
        x.go(1);
        Told.due("the first", x.thief(0, 0), 0);
        x = Told.of("corner a 2 0;corner b 2 0;corner c 1 0;lane b c;lane b a;thief t b 0;law dread light;");
        x.go(1);
        Told.due("the least", x.thief(0, 0), 2);
    }

    private static void promise14_go_dreadWithAnErrorIsLightLessTwiceFar() {
        // At a the law has an error: 5 - 2 * 2 is 1; b is worth what is told.
        String town = "corner a 5 0;corner b 9 0;corner c 7 0;lane a b;lane b c;guard g c;thief t b 0;law stir 1;";
        int[] due = {1, 1, 0};
        for (int told = 0; told <= 2; told++) {
            ThiefTakers x = Told.of(town + "law dread (light=9)*" + told + "+(light=7)*9+0/(light-5);");
            x.go(1);
            Told.due("1 against " + told, x.thief(0, 0), due[told]);
        }
    }

    private static long numberOf(int seed) {
        return (seed * 1103515245L + 12345L) % 2147483648L / 65536L % 100L;
    }

    private static void promise14_go_aGripHoldsBelowItsOdds() {
        for (int seed : new int[] {0, 1, 2, 77, 4242, 31000, 99998, 99999}) {
            long number = numberOf(seed);
            for (long grip = Math.max(1, number - 1); grip <= Math.min(99, number + 2); grip++) {
                ThiefTakers x = Told.of("corner a 0 9;guard g a;thief t a 1;seed " + seed + ";grip " + grip + ";");
                x.go(1);
                Told.due(number + " against " + grip, x.count(6), number < grip ? 1 : 0);
            }
        }
    }

    private static void promise14_go_aGripOf1And99() {
        boolean[] seen = new boolean[100];
        for (int seed = 0; seed < 2000; seed++) {
            int number = (int) numberOf(seed);
            boolean edge = number <= 1 || number >= 98;
            if (!edge || seen[number]) {
                continue;
            }
            seen[number] = true;
            for (int grip : new int[] {1, 99}) {
                ThiefTakers x = Told.of("corner a 0 9;guard g a;thief t a 1;seed " + seed + ";grip " + grip + ";");
                x.go(1);
                Told.due(number + " against " + grip, x.count(6), number < grip ? 1 : 0);
            }
        }
        for (int number : new int[] {0, 1, 98, 99}) {
            Told.due("there is a seed for " + number, seen[number], true);
        }
    }

    private static void promise14_go_aNumberOnlyForThoseWhoMeetAndAreFree() {
        // Each guard asks each thief who is there and not caught yet: so many numbers are drawn, in this order.
        for (int seed : new int[] {0, 3, 14, 15, 92, 65, 35}) {
            ThiefTakers x = Told.of("corner a 0 0;corner b 0 0;guard g a;guard h b;guard i a;thief s a 0;thief t b 0;thief u a 0;"
                    + "thief v a 0;law stir 0;grip 50;seed " + seed + ";");
            long last = seed;
            int[] by = {-2, -2, -2, -2};
            for (int hour = 0; hour < 3; hour++) {
                for (int guard = 0; guard < 3; guard++) {
                    for (int thief = 0; thief < 4; thief++) {
                        if (by[thief] == -2 && guard == 1 == (thief == 1)) {
                            last = (last * 1103515245L + 12345L) % 2147483648L;
                            by[thief] = last / 65536 % 100 < 50 ? guard : -2;
                        }
                    }
                }
                x.go(1);
                for (int thief = 0; thief < 4; thief++) {
                    Told.due("seed " + seed + ", hour " + hour + ", thief " + thief, x.thief(thief, 3), by[thief]);
                }
            }
        }
    }

    private static void promise14_go_grip0And100() {
        ThiefTakers x = Told.of("corner a 0 9;guard g a;thief t a 1;grip 0;");
        x.go(200);
        Told.due("never", x.count(6), 0);
        x = Told.of("corner a 0 9;guard g a;thief t a 1;grip 100;");
        x.go(1);
        Told.due("at once", x.count(6), 1);
    }

    private static void promise14_go_takeIs0To99() {
        String[] takes = {"0-9999", "0-1", "0", "1", "98", "99", "100", "9999", TRILLION, "0-" + TRILLION};
        int[] due = {0, 0, 0, 1, 98, 99, 99, 99, 99, 0};
        for (int k = 0; k < takes.length; k++) {
            ThiefTakers x = Told.of("corner a 0 500;thief t a 4;law take " + takes[k] + ";");
            x.go(1);
            Told.due("had by " + takes[k], x.thief(0, 2), due[k]);
            Told.due("left by " + takes[k], x.corner(0, 1), 500 - due[k]);
        }
    }

    private static void promise14_go_takeWithoutOrWithAnErrorIsBoldAnd1() {
        for (String law : new String[] {"", "law take 1/0;", "law take " + TRILLION + "+1;"}) {
            for (int bold : new int[] {0, 1, 8, 9}) {
                ThiefTakers x = Told.of("corner a 0 500;thief t a " + bold + ";" + law);
                x.go(1);
                Told.due("bold " + bold + " " + law, x.thief(0, 2), bold + 1);
            }
        }
    }

    private static void promise14_go_orAllThatIsThere() {
        for (int loot = 0; loot <= 6; loot++) {
            ThiefTakers x = Told.of("corner a 0 " + loot + ";thief t a 4;thief u a 0;");
            x.go(1);
            Told.due("the first of " + loot, x.thief(0, 2), Math.min(5, loot));
            Told.due("the second of " + loot, x.thief(1, 2), loot == 6 ? 1 : 0);
            Told.due("left of " + loot, x.corner(0, 1), 0);
        }
    }

    private static void promise15_ahead_0To200Hours() {
        Alike busy = new Alike(Towns::busy);
        for (int what = 0; what <= 4; what++) {
            int asked = what;
            busy.takes("ahead, what " + what, 0, 200, (x, n) -> x.ahead(n, asked, 0), -1);
        }
        Told.due("0 hours: as it is", Towns.busy().ahead(0, 2, 0), 67);
        ThiefTakers x = Told.of(Towns.path(10) + "guard g a;beat g j;thief t j 0;law stir 0;grip 0;");
        for (int n : new int[] {0, 1, 8, 9, 10, 200}) {
            Told.due("the guard behind " + n, x.ahead(n, 3, 0), Math.min(n, 9));
            Told.due("the thief behind " + n, x.ahead(n, 4, 0), 9);
        }
        x = inHour(9800);
        Told.due("no hour is the last of what comes", x.ahead(200, 3, 0) >= 0, true);
        Told.due("which it is still", x.count(5), 9800);
    }

    private static void promise15_ahead_noSuchOnes() {
        Alike busy = new Alike(Towns::busy);
        busy.takes("what", 0, 4, (x, what) -> x.ahead(1, what, 0), -1);
        busy.takes("had of thief", 0, 2, (x, thief) -> x.ahead(1, 1, thief), -1);
        busy.takes("guard", 0, 1, (x, guard) -> x.ahead(1, 3, guard), -1);
        busy.takes("thief", 0, 2, (x, thief) -> x.ahead(1, 4, thief), -1);
        Alike none = new Alike(ThiefTakers::new);
        for (int what = 0; what <= 4; what++) {
            int asked = what;
            none.leaves("of nothing, what " + what, x -> x.ahead(200, asked, 0), what == 0 || what == 2 ? 0 : -1);
        }
    }

    private static void promise15_ahead_iIsntLookedAtOf0And2() {
        Alike busy = new Alike(Towns::busy);
        long caught = Towns.busy().ahead(5, 0, 0);
        long loot = Towns.busy().ahead(5, 2, 0);
        for (int i : Edges.beyond(0, 0)) {
            busy.leaves("caught, i " + i, x -> x.ahead(5, 0, i), caught);
            busy.leaves("loot, i " + i, x -> x.ahead(5, 2, i), loot);
        }
    }

    /** With grip 0 and 100 no numbers are drawn: what comes as it goes comes by go, too. */
    private static void promise15_ahead_isWhatComesOfAFullTown() {
        for (String grip : new String[] {"grip 0;", "grip 100;"}) {
            for (int n : new int[] {1, 2, 3, 9, 60, 200}) {
                ThiefTakers x = Told.of(Towns.FULL.replace("grip 30;", grip) + "law take bold+hour/2;");
                x.go(3);
                ThiefTakers then = Told.of(Towns.FULL.replace("grip 30;", grip) + "law take bold+hour/2;");
                then.go(3);
                then.go(n);
                Told.due("caught", x.ahead(n, 0, 0), then.count(6));
                Told.due("loot of all", x.ahead(n, 2, 0), then.count(7));
                for (int thief = 0; thief < 4; thief++) {
                    Told.due("had by " + thief, x.ahead(n, 1, thief), then.thief(thief, 2));
                    Told.due("thief " + thief, x.ahead(n, 4, thief), then.thief(thief, 0));
                }
                for (int guard = 0; guard < 3; guard++) {
                    Told.due("guard " + guard, x.ahead(n, 3, guard), then.guard(guard, 0));
                }
            }
        }
    }

    private static void promise15_ahead_askedAllStays() {
        Alike busy = new Alike(Towns::busy);
        for (int what = 0; what <= 4; what++) {
            int asked = what;
            busy.asked("ahead of " + what, x -> x.ahead(200, asked, 0));
        }
    }

    private static void promise15_ahead_asItGoesAGripOf50Holds() {
        String town = "corner a 0 9;guard g a;thief t a 1;grip ";
        int[] grips = {0, 1, 49, 50, 51, 99, 100};
        for (int grip : grips) {
            Told.due("grip " + grip, Told.of(town + grip + ";").ahead(200, 0, 0), grip >= 50 ? 1 : 0);
            Told.due("had by grip " + grip, Told.of(town + grip + ";").ahead(1, 1, 0), grip >= 50 ? 0 : 2);
        }
    }

    private static void promise16_caught_noSuchThief() {
        new Alike(Towns::busy).takes("caught", 0, 2, ThiefTakers::caught, -1);
        new Alike(Towns::full).takes("caught", 0, 3, ThiefTakers::caught, -1);
        new Alike(ThiefTakers::new).leaves("of none", x -> x.caught(0), -1);
    }

    private static void promise16_caught_199HoursAtMost() {
        String town = "corner a 0 0;corner b 0 0;lane a b;guard g a;thief t b 0;law dread guards*2*(hour<H)-guards;";
        for (int hour : new int[] {0, 1, 197, 198, 199, 200}) {
            // From that hour on he goes to the guard: he is caught when it is the next one.
            int due = hour + 1 <= 199 ? hour + 1 : -2;
            Told.due("in hour " + hour, Told.of(town.replace("H", "" + hour)).caught(0), due);
        }
        ThiefTakers x = Told.of(town.replace("H", "199"));
        x.go(1);
        Told.due("an hour later", x.caught(0), 199);
    }

    private static void promise16_caught_0IfHeIs() {
        ThiefTakers x = Told.of("corner a 0 0;guard g a;thief t a 0;grip 1;seed 0;");
        x.go(1);
        Told.due("caught by the number 0", x.thief(0, 3), 0);
        Told.due("he is", x.caught(0), 0);
        Told.due("grip 49: never", Told.of("corner a 0 0;guard g a;thief t a 0;grip 49;").caught(0), -2);
        Told.due("grip 50: in one", Told.of("corner a 0 0;guard g a;thief t a 0;grip 50;").caught(0), 1);
    }

    private static void promise16_caught_askedAllStays() {
        Alike busy = new Alike(Towns::busy);
        busy.asked("caught of one free", x -> x.caught(0));
        busy.asked("caught of one caught", x -> x.caught(1));
    }

    private static void promise17_far_noSuchOnes() {
        new Alike(Towns::busy).takes("from", 0, 3, (x, corner) -> x.far(corner, 0), -1);
        new Alike(Towns::busy).takes("to", 0, 3, (x, corner) -> x.far(0, corner), -1);
        new Alike(Towns::full).takes("to", 0, 9, (x, corner) -> x.far(9, corner), -1);
        new Alike(ThiefTakers::new).leaves("in no town", x -> x.far(0, 0), -1);
    }

    private static void promise17_far_0To9And99() {
        ThiefTakers x = Told.of(Towns.path(10));
        for (int to = 0; to < 10; to++) {
            Told.due("from a to " + to, x.far(0, to), to);
            Told.due("from j to " + to, x.far(9, to), 9 - to);
        }
        x.bar(8);
        Told.due("none does", x.far(0, 9), 99);
        Told.due("none does back", x.far(9, 0), 99);
        Told.due("one less far", x.far(0, 8), 8);
        Told.due("alike", x.far(9, 9), 0);
        x = Told.of(Towns.corners(10) + Towns.steps("ab bc cd de ef fg gh hi ij ja"));
        Told.due("round the ring", x.far(1, 0), 9);
        Told.due("along the ring", x.far(0, 1), 1);
    }

    private static void promise18_way_noSuchOnes() {
        Alike busy = new Alike(Towns::busy);
        busy.takes("from", 0, 3, (x, corner) -> x.way(corner, 0, 0), -1);
        busy.takes("to", 0, 3, (x, corner) -> x.way(0, corner, 0), -1);
        for (int k : new int[] {-1, -2, Integer.MIN_VALUE}) {
            busy.leaves("k " + k, x -> x.way(0, 1, k), -1);
        }
        new Alike(ThiefTakers::new).leaves("in no town", x -> x.way(0, 0, 0), -1);
    }

    private static void promise18_way_itHasNoSoMany() {
        ThiefTakers x = Told.of(Towns.path(10));
        for (int to = 0; to < 10; to++) {
            Told.due("the first to " + to, x.way(0, to, 0), 0);
            Told.due("the last to " + to, x.way(0, to, to), to);
            Told.due("one more to " + to, x.way(0, to, to + 1), -2);
        }
        for (int k : new int[] {10, 32, 99, 100, 256, Integer.MAX_VALUE}) {
            Told.due("k " + k, x.way(0, 9, k), -2);
        }
        x.bar(8);
        Told.due("there is none", x.way(0, 9, 0), -2);
        Told.due("there is none, k 99", x.way(0, 9, 99), -2);
    }

    private static void promise18_way_alongStepsNotAgainstThem() {
        ThiefTakers x = Told.of(Towns.corners(4) + Towns.steps("ab bc cd da"));
        for (int from = 0; from < 4; from++) {
            for (int to = 0; to < 4; to++) {
                int lanes = (to - from + 4) % 4;
                for (int k = 0; k <= 5; k++) {
                    Told.due("from " + from + " to " + to + ", k " + k, x.way(from, to, k), k <= lanes ? (from + k) % 4 : -2);
                }
            }
        }
    }

    private static void promise18_way_eachTimeToTheFirst() {
        ThiefTakers x = Told.of(Towns.corners(6) + Towns.lanes("fe fd ec db ca ba dc"));
        int[] due = {5, 3, 1, 0, -2};
        for (int k = 0; k < due.length; k++) {
            Told.due("by d ahead of e, by b ahead of c, k " + k, x.way(5, 0, k), due[k]);
        }
        x.bar(5);
        int[] barred = {5, 3, 2, 0, -2};
        for (int k = 0; k < barred.length; k++) {
            Told.due("from b none leads to a now, k " + k, x.way(5, 0, k), barred[k]);
        }
    }

    private static void promise19_reach_noSuchCorner() {
        new Alike(Towns::busy).takes("reach", 0, 3, ThiefTakers::reach, -1);
        new Alike(Towns::full).takes("reach", 0, 9, ThiefTakers::reach, -1);
        new Alike(ThiefTakers::new).leaves("in no town", x -> x.reach(0), -1);
    }

    private static void promise19_reach_itsOwnWithAll() {
        Told.due("its own alone", Told.of(Towns.corners(10)).reach(9), 512);
        ThiefTakers x = Told.of(Towns.path(10));
        Told.due("all ten", x.reach(9), 1023);
        x.bar(0);
        Told.due("all but a", x.reach(9), 1022);
        Told.due("a alone", x.reach(0), 1);
        Told.due("along steps only", Told.of(Towns.corners(3) + "steps b a;steps b c;").reach(0), 1);
    }

    private static void promise20_parts_thatLeadToEachOtherEitherWay() {
        Told.due("a and c, b alone", Told.of(Towns.corners(3) + "lane a c;").parts(), 2);
        Told.due("a and d, b and c", Told.of(Towns.corners(4) + "lane a d;lane c b;").parts(), 2);
        Told.due("one way on", Told.of(Towns.corners(2) + "steps a b;").parts(), 2);
        Told.due("one way back", Told.of(Towns.corners(2) + "steps b a;").parts(), 2);
        Told.due("either way", Told.of(Towns.corners(2) + "steps b a;steps a b;").parts(), 1);
        Told.due("a third between", Told.of(Towns.corners(3) + "steps a c;steps c b;").parts(), 3);
        Told.due("a ring of three", Told.of(Towns.corners(3) + "steps a c;steps c b;steps b a;").parts(), 1);
    }

    private static void promise20_parts_0To10() {
        Told.due("no corners", new ThiefTakers().parts(), 0);
        for (int many = 1; many <= 10; many++) {
            Told.due("alone, " + many, Told.of(Towns.corners(many)).parts(), many);
            Told.due("in a row, " + many, Told.of(Towns.path(many)).parts(), 1);
        }
        ThiefTakers x = Told.of(Towns.corners(10) + Towns.steps("ab bc cd de ef fg gh hi ij ja"));
        Told.due("a ring of steps", x.parts(), 1);
        x.bar(9);
        Told.due("steps in a row lead one way only", x.parts(), 10);
        new Alike(Towns::busy).leaves("parts", ThiefTakers::parts, 1);
    }
}
