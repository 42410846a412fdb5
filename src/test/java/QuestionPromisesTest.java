/** Promises 19 to 42: what can be reached, the chase, sweeping, walks, matching, talk, grips, facts. */
public final class QuestionPromisesTest {
    private static final String PATH = "corner a 1 50;corner b 5 10;corner c 2 0;corner d 9 7;"
            + "lane a b;lane b c;lane c d;steps d a;";

    public static void main(String[] args) {
        reach();
        parts();
        chase();
        firstGo();
        flee();
        takers();
        sweep();
        dark();
        could();
        unseen();
        round();
        wall();
        drunk();
        match();
        rests();
        holds();
        facts();
        bolds();
        ask();
        Told.end();
    }

    private static final String PETERSEN = Towns.corners(10) + Towns.lanes("ab bc cd de ea af bg ch di ej fh hj jg gi if");

    /** Promise 19. */
    private static void reach() {
        ThiefTakers x = Told.of(Towns.corners(4) + "steps a b;lane b c;");
        Told.due("reach(0)", x.reach(0), 7);
        Told.due("reach(1)", x.reach(1), 6);
        Told.due("reach(3)", x.reach(3), 8);
        Told.due("reach(4)", x.reach(4), -1);
        Told.due("reach(-1)", x.reach(-1), -1);
        x.bar(1);
        Told.due("barred", x.reach(0), 3);
    }

    /** Promise 20. */
    private static void parts() {
        ThiefTakers x = Told.of(Towns.corners(5) + "steps a b;steps b c;steps c a;steps c d;");
        Told.due("a ring, what it leads to, one alone", x.parts(), 3);
        x.bar(2);
        Told.due("no ring", x.parts(), 5);
        Told.due("none", new ThiefTakers().parts(), 0);
        Told.due("one", Told.of(Towns.corners(10) + Towns.lanes("ab bc cd de ef fg gh hi ij")).parts(), 1);
    }

    /** Promise 21. */
    private static void chase() {
        ThiefTakers x = Told.of(PATH + "guard g a;guard h d;");
        Told.due("he is", x.chase(1, 0), 0);
        Told.due("at once", x.chase(1, 1), 1);
        Told.due("none", x.chase(0, 0), -2);
        Told.due("both from either side", x.chase(3, 1), 1);
        Told.due("both", x.chase(3, 2), 1);
        Told.due("the other one", x.chase(2, 0), 1);
        Told.due("one alone against c, who goes on to d and a", x.chase(1, 2), 4);
        Told.due("one alone against d", x.chase(1, 3), 4);
        Told.due("guards 4", x.chase(4, 0), -1);
        Told.due("guards -1", x.chase(-1, 0), -1);
        Told.due("corner 4", x.chase(1, 4), -1);
        Told.due("corner -1", x.chase(1, -1), -1);
        Told.due("nobody has gone", x.guard(0, 0), 0);
        // A ring of four: one never takes him, two do.
        x = Told.of(Towns.corners(4) + Towns.lanes("ab bc cd da") + "guard g a;guard h a;guard i b;");
        Told.due("one on a ring", x.chase(1, 2), -2);
        Told.due("two on a ring from one corner", x.chase(3, 2), 2);
        Told.due("three", x.chase(7, 3), 1);
        // He can't go where steps lead the other way.
        x = Told.of(Towns.corners(3) + "steps a b;steps b c;guard g a;");
        Told.due("along steps", x.chase(1, 2), 2);
        x = Told.of(Towns.corners(3) + "steps b a;steps c b;guard g a;");
        Told.due("against steps he just stays", x.chase(1, 2), -2);
        x = Told.of(PETERSEN + "guard g a;guard h a;guard i a;");
        Told.due("two don't do", x.chase(3, 3), -2);
        Told.due("three do", x.chase(7, 3) > 0, true);
        x.bar(0);
        Told.due("what was solved isn't kept when a lane is barred", x.chase(1, 1), -2);
        Told.due("and is new when it isn't any more", x.bar(0) + x.chase(1, 1), 1);
    }

    /** Promise 22. */
    private static void firstGo() {
        ThiefTakers x = Told.of(PATH + "guard g a;guard h d;");
        Told.due("towards c by b", x.firstGo(1, 3, 0), 1);
        Told.due("taken already", x.firstGo(1, 0, 0), -2);
        Told.due("not one of them", x.firstGo(1, 3, 1), -2);
        Told.due("never: none", x.firstGo(0, 3, 0), -2);
        Told.due("the first of both may stay", x.firstGo(3, 2, 0), 0);
        Told.due("the second goes", x.firstGo(3, 2, 1), 2);
        Told.due("the first goes, the second to the first corner", x.firstGo(3, 1, 0), 1);
        Told.due("the first corner for the second is a", x.firstGo(3, 1, 1), 0);
        Told.due("the second alone", x.firstGo(2, 2, 1), 2);
        Told.due("guards 4", x.firstGo(4, 0, 0), -1);
        Told.due("corner 4", x.firstGo(1, 4, 0), -1);
        Told.due("guard 2", x.firstGo(1, 3, 2), -1);
        Told.due("guard -1", x.firstGo(1, 3, -1), -1);
        x = Told.of(Towns.corners(4) + Towns.lanes("ab bc cd da") + "guard g a;");
        Told.due("never", x.firstGo(1, 2, 0), -2);
    }

    /** Promise 23. */
    private static void flee() {
        ThiefTakers x = Told.of(Towns.corners(4) + Towns.lanes("ab bc cd") + "guard g a;guard h a;");
        Told.due("as far as may be", x.flee(1, 1), 2);
        Told.due("c is as good as d: the first", x.flee(1, 2), 2);
        Told.due("from d, too", x.flee(1, 3), 2);
        Told.due("taken already", x.flee(1, 0), -2);
        Told.due("none: the first", x.flee(0, 2), 1);
        Told.due("none: the first, his own", x.flee(0, 0), 0);
        Told.due("guards 4", x.flee(4, 1), -1);
        Told.due("corner 4", x.flee(1, 4), -1);
        Told.due("corner -1", x.flee(1, -1), -1);
        x = Told.of(Towns.corners(4) + Towns.lanes("ab bc cd da") + "guard g a;");
        Told.due("never: only c is safe", x.flee(1, 1), 2);
        Told.due("never: stays at c", x.flee(1, 2), 2);
        x = Told.of(Towns.corners(6) + Towns.lanes("ab bc cd de ef fa") + "guard g a;");
        Told.due("never: of c, d, e the first", x.flee(1, 3), 2);
    }

    /** Promises 24 and 25. */
    private static void takers() {
        Told.due("no corners", new ThiefTakers().takers(), 0);
        Told.due("no post", new ThiefTakers().post(0), -2);
        Told.due("post(-1)", new ThiefTakers().post(-1), -1);
        ThiefTakers x = Told.of(Towns.corners(1));
        Told.due("one corner", x.takers(), 1);
        Told.due("its post", x.post(0), 0);
        x = Told.of(Towns.corners(4) + Towns.lanes("ab bc cd da"));
        Told.due("a ring", x.takers(), 2);
        Told.due("both at a", x.post(0), 0);
        Told.due("both at a", x.post(1), 0);
        Told.due("no third", x.post(2), -2);
        x = Told.of(Towns.corners(3) + "steps b a;steps c a;");
        Told.due("two who are at the heads of steps", x.takers(), 2);
        Told.due("b", x.post(0), 1);
        Told.due("c", x.post(1), 2);
        x = Told.of(Towns.corners(3));
        Told.due("three alone", x.takers(), 3);
        Told.due("c", x.post(2), 2);
        Told.due("k great", x.post(2147483647), -2);
        x = Told.of(Towns.corners(4));
        Told.due("not by 3", x.takers(), -2);
        Told.due("no posts", x.post(0), -2);
        Told.due("Petersen's graph", Told.of(PETERSEN).takers(), 3);
        x = Told.of(Towns.corners(3) + Towns.lanes("ab bc"));
        Told.due("before", x.takers(), 1);
        x.bar(1);
        Told.due("barred", x.takers(), 2);
        Told.due("second post", x.post(1), 2);
        x.undo();
        Told.due("undone", x.takers(), 1);
    }

    /** Promises 26 and 27. */
    private static void sweep() {
        Told.due("no corners", new ThiefTakers().sweep(1), 0);
        Told.due("no corners", new ThiefTakers().look(10), 0);
        Told.due("n 0", new ThiefTakers().sweep(0), -1);
        Told.due("n 11", new ThiefTakers().look(11), -1);
        ThiefTakers x = Told.of(Towns.corners(1));
        Told.due("one corner", x.sweep(1), 1);
        Told.due("look there", x.look(1), 1);
        // On a path of m corners it takes 2 (m - 2) nights.
        String pairs = "ab bc cd de ef fg gh hi ij";
        for (int m = 3; m <= 10; m++) {
            x = Told.of(Towns.corners(m) + Towns.lanes(pairs.substring(0, 3 * (m - 1) - 1)));
            Told.due("a path of " + m, x.sweep(1), 2 * (m - 2));
            Told.due("from its second corner", x.look(1), 2);
            Told.due("all at once", x.sweep(m), 1);
            Told.due("all of them", x.look(m), (1 << m) - 1);
        }
        x = Told.of(Towns.corners(4) + Towns.lanes("ab bc cd da"));
        Told.due("a ring by one", x.sweep(1), -2);
        Told.due("a ring by one", x.look(1), -2);
        Told.due("a ring by two", x.sweep(2), 2);
        Told.due("a and c", x.look(2), 5);
        Told.due("n 0", x.sweep(0), -1);
        Told.due("n -1", x.look(-1), -1);
        Told.due("n 11", x.sweep(11), -1);
        Told.due("n 10", x.sweep(10), 1);
        // He at the end of steps stays there: nobody needs to be looked for in the first night.
        x = Told.of(Towns.corners(2) + "steps a b;");
        Told.due("steps", x.sweep(1), 2);
        Told.due("look nowhere", x.look(1), 0);
        x = Told.of(Towns.corners(2));
        Told.due("two alone", x.sweep(1), 2);
        Told.due("first a", x.look(1), 1);
        x = Told.of(Towns.corners(2) + Towns.lanes("ab"));
        Told.due("two with a lane", x.sweep(1), 2);
        Told.due("first a", x.look(1), 1);
        x.bar(0);
        Told.due("barred", x.sweep(1), 2);
    }

    /** Promise 28. */
    private static void dark() {
        Told.due("no corners", new ThiefTakers().dark(), 0);
        Told.due("a path", Told.of(Towns.corners(4) + Towns.lanes("ab bc cd")).dark(), 1);
        Told.due("a ring", Told.of(Towns.corners(4) + Towns.lanes("ab bc cd da")).dark(), 2);
        Told.due("all four to each other", Told.of(Towns.corners(4) + Towns.lanes("ab ac ad bc bd cd")).dark(), 3);
    }

    /** Promise 29. */
    private static void could() {
        ThiefTakers x = Told.of(PATH + "guard g a;beat g a c;thief t d 2;thief u a 0;");
        int[] due = {8, 13, 11, 13, 14};
        for (int n = 0; n < due.length; n++) {
            Told.due("could(0, " + n + ")", x.could(0, n), due[n]);
        }
        Told.due("where he is, with a guard", x.could(1, 0), 1);
        Told.due("60", x.could(0, 60) > 0, true);
        Told.due("n 61", x.could(0, 61), -1);
        Told.due("n -1", x.could(0, -1), -1);
        Told.due("thief 2", x.could(2, 0), -1);
        Told.due("thief -1", x.could(-1, 0), -1);
        x.go(4);
        Told.due("caught", x.could(0, 0), 0);
        Told.due("shut in", Told.of(Towns.corners(1) + "guard g a;thief t a 0;").could(0, 1), 0);
        x = Told.of(Towns.corners(2) + "lane a b;guard g b;thief t a 0;");
        x.bar(0);
        Told.due("a barred lane", x.could(0, 5), 1);
    }

    /** Promise 30. */
    private static void unseen() {
        ThiefTakers x = Told.of(PATH + "guard g a;beat g a c;");
        Told.due("a", x.unseen(0), 1);
        Told.due("b", x.unseen(1), 0);
        Told.due("d", x.unseen(3), 3);
        Told.due("corner 4", x.unseen(4), -1);
        Told.due("corner -1", x.unseen(-1), -1);
        Told.due("without guards", Told.of(PATH).unseen(0), 60);
        Told.due("out of the way", Told.of(PATH + "guard g a;").unseen(2), 60);
        // From b on to e and no more back: a is unseen from the second hour on, but for the first.
        x = Told.of(Towns.corners(5) + Towns.lanes("ab bc cd de") + "guard g a;beat g e;");
        Told.due("59 of 60", x.unseen(0), 59);
        Told.due("steps: far of it from him", Told.of(Towns.corners(2) + "steps a b;guard g b;").unseen(0), 60);
    }

    /** Promise 31. */
    private static void round() {
        ThiefTakers x = Told.of(PATH);
        Told.due("a", x.round(0), 3);
        Told.due("b", x.round(1), 3);
        Told.due("corner 4", x.round(4), -1);
        Told.due("corner -1", x.round(-1), -1);
        Told.due("one corner", Told.of(Towns.corners(1)).round(0), 0);
        Told.due("two alone", Told.of(Towns.corners(2)).round(0), -2);
        // A star of nine: each arm twice but for the last one.
        x = Told.of(Towns.corners(10) + Towns.lanes("ab ac ad ae af ag ah ai aj"));
        Told.due("from its middle", x.round(0), 17);
        Told.due("from an arm", x.round(3), 16);
        x = Told.of(Towns.corners(3) + "steps a b;steps a c;steps b c;");
        Told.due("by steps", x.round(0), 2);
        Told.due("too late", x.round(1), -2);
        x = Told.of(Towns.corners(5) + Towns.lanes("ab bc cd de"));
        Told.due("a path from its middle", x.round(2), 6);
    }

    /** Promise 32. */
    private static void wall() {
        ThiefTakers x = Told.of(PATH);
        Told.due("wall(3, 0)", x.wall(3, 0), 2);
        Told.due("wall(0, 3)", x.wall(0, 3), 1);
        Told.due("alike", x.wall(1, 1), -1);
        Told.due("corner 4", x.wall(0, 4), -1);
        Told.due("corner -1", x.wall(-1, 0), -1);
        x.bar(3);
        Told.due("one is barred", x.wall(3, 0), 1);
        x.bar(1);
        Told.due("none leads there", x.wall(3, 0), 0);
        x = Told.of(Towns.corners(2) + "lane a b;steps a b;steps b a;");
        Told.due("three side by side, two lead there", x.wall(0, 1), 2);
        Told.due("two lead back", x.wall(1, 0), 2);
        x = Told.of(Towns.corners(4) + Towns.lanes("ab ac ad bc bd cd"));
        Told.due("all to each other", x.wall(0, 3), 3);
        x = Told.of(Towns.corners(6) + Towns.lanes("ab ac bd cd de df ef"));
        Told.due("two to d, two on", x.wall(0, 5), 2);
    }

    /** Promise 33. */
    private static void drunk() {
        ThiefTakers x = Told.of(PATH);
        Told.due("stays twice or there and back: 1/4 + 1/2 1/3", x.drunk(0, 0, 2, 0), 5);
        Told.due("below", x.drunk(0, 0, 2, 1), 12);
        Told.due("n 0, there", x.drunk(1, 1, 0, 0), 1);
        Told.due("n 0, there", x.drunk(1, 1, 0, 1), 1);
        Told.due("n 0, elsewhere", x.drunk(1, 2, 0, 0), 0);
        Told.due("n 0, elsewhere", x.drunk(1, 2, 0, 1), 1);
        Told.due("too far", x.drunk(0, 3, 2, 0), 0);
        Told.due("too far", x.drunk(0, 3, 2, 1), 1);
        Told.due("1/2 1/3 1/3", x.drunk(0, 3, 3, 1), 18);
        Told.due("n 5", x.drunk(0, 0, 5, 0), -1);
        Told.due("n -1", x.drunk(0, 0, -1, 0), -1);
        Told.due("what 2", x.drunk(0, 0, 1, 2), -1);
        Told.due("what -1", x.drunk(0, 0, 1, -1), -1);
        Told.due("from 4", x.drunk(4, 0, 1, 0), -1);
        Told.due("to -1", x.drunk(0, -1, 1, 0), -1);
        x = Told.of(Towns.corners(2) + "lane a b;steps a b;");
        Told.due("two lanes to one corner are one way", x.drunk(0, 1, 1, 1), 2);
        x = Told.of(Towns.corners(10) + Towns.lanes("ab ac ad ae af ag ah ai aj"));
        // Back to the middle: (1/10 1/10 1/10 1/10) and so on, summed: p' = p / 10 + q / 2.
        Told.due("a star, once", x.drunk(0, 0, 1, 1), 10);
        Told.due("a star, twice: 1/100 + 9/10 1/2", x.drunk(0, 0, 2, 0), 23);
        Told.due("a star, twice", x.drunk(0, 0, 2, 1), 50);
        Told.due("a star, three times: 23/500 + 27/100", x.drunk(0, 0, 3, 0), 79);
        Told.due("a star, three times", x.drunk(0, 0, 3, 1), 250);
        Told.due("a star, four times: 79/2500 + 171/500", x.drunk(0, 0, 4, 0), 467);
        Told.due("a star, four times", x.drunk(0, 0, 4, 1), 1250);
    }

    /** Promise 34. */
    private static void match() {
        ThiefTakers x = Told.of(Towns.corners(5) + Towns.lanes("ab bc cd de") + "guard g a;guard h c;thief s d 0;thief t b 0;thief u a 0;");
        Told.due("g takes u", x.match(0), 2);
        Told.due("h takes s, not t", x.match(1), 0);
        Told.due("no third guard", x.match(2), -2);
        Told.due("how many", x.match(3), 2);
        Told.due("how far", x.match(4), 1);
        Told.due("what 5", x.match(5), -1);
        Told.due("what -1", x.match(-1), -1);
        x = Told.of(Towns.corners(5) + Towns.lanes("ab bc cd de") + "guard g b;guard h b;guard i b;thief s b 0;");
        Told.due("the first has him", x.match(0), 0);
        Told.due("none is left", x.match(1), -2);
        Told.due("how many", x.match(3), 1);
        x = Told.of(Towns.corners(5) + Towns.lanes("ab bc cd de") + "guard g e;guard h b;guard i b;thief s b 0;");
        Told.due("less far: h has him", x.match(1), 0);
        Told.due("g has none", x.match(0), -2);
        Told.due("how far", x.match(4), 0);
        x = Told.of(Towns.corners(3) + "guard g a;guard h b;thief s c 0;thief t c 0;");
        Told.due("as many as may be, 99 each", x.match(4), 198);
        Told.due("two", x.match(3), 2);
        Told.due("s", x.match(0), 0);
        Told.due("t", x.match(1), 1);
        x = Told.of(Towns.corners(2) + "guard g a;thief s a 0;thief t b 0;");
        x.go(1);
        Told.due("a caught one is none", x.match(0), 1);
        Told.due("no guards", new ThiefTakers().match(4), 0);
    }

    /** Promises 35 and 36. */
    private static void rests() {
        ThiefTakers x = Told.of("corner a 0 999;thief s a 9;thief t a 0;law take 50;");
        Told.due("both talk", x.rests(0, 1), 1);
        Told.due("00", x.rest(0, 1, 0), 0);
        Told.due("no second", x.rest(0, 1, 1), -2);
        Told.due("k -1", x.rest(0, 1, -1), -1);
        Told.due("alike", x.rests(1, 1), -1);
        Told.due("alike", x.rest(1, 1, 0), -1);
        Told.due("thief 2", x.rests(0, 2), -1);
        Told.due("thief -1", x.rest(-1, 0, 0), -1);
        x.go(1);
        Told.due("100 had: 5 against 5", x.rests(0, 1), 2);
        Told.due("the first", x.rest(0, 1, 0), 0);
        Told.due("both mum", x.rest(0, 1, 1), 11);
        Told.due("no third", x.rest(0, 1, 2), -2);
        x = Told.of("corner a 0 999;corner b 0 99;thief s a 9;thief t b 0;law take 99;");
        x.go(1);
        Told.due("198 had", x.rests(1, 0), 2);
        x = Told.of("corner a 0 99;thief s a 9;thief t a 0;law take 99;");
        x.go(1);
        Told.due("99 had", x.rests(1, 0), 1);
    }

    /** Promise 37. */
    private static void holds() {
        ThiefTakers x = Told.of("grip 50;");
        Told.due("1/2", x.holds(1, 1), 2);
        Told.due("1/64", x.holds(6, 1), 64);
        Told.due("1/64", x.holds(6, 0), 1);
        Told.due("n 0", x.holds(0, 0), 1);
        Told.due("n 0", x.holds(0, 1), 1);
        x = Told.of("grip 99;");
        Told.due("99 to the 6", x.holds(6, 0), 941480149401L);
        Told.due("100 to the 6", x.holds(6, 1), 1000000000000L);
        Told.due("n 7", x.holds(7, 0), -1);
        Told.due("n -1", x.holds(-1, 0), -1);
        Told.due("what 2", x.holds(1, 2), -1);
        Told.due("what -1", x.holds(1, -1), -1);
        x = Told.of("grip 0;");
        Told.due("never", x.holds(3, 0), 0);
        Told.due("never", x.holds(3, 1), 1);
        Told.due("no grips at all", x.holds(0, 0), 1);
        Told.due("untold", new ThiefTakers().holds(6, 1), 1);
    }

    /** Promises 38 to 40. */
    private static void facts() {
        ThiefTakers x = Told.of("corner a 0 5;corner b 0 5;thief s a 1;law stir 0;");
        Told.due("hours 0", x.see(0, 0, 0, true), -1);
        Told.due("hours 61", x.see(61, 0, 0, true), -1);
        Told.due("thief 1", x.see(1, 1, 0, true), -1);
        Told.due("thief -1", x.see(1, -1, 0, true), -1);
        Told.due("corner 2", x.see(1, 0, 2, true), -1);
        Told.due("corner -1", x.see(1, 0, -1, true), -1);
        Told.due("nothing to strike", x.strike(0), -1);
        Told.due("strike(-1)", x.strike(-1), -1);
        Told.due("known(0)", x.known(0), true);
        Told.due("known(1)", x.known(1), false);
        Told.due("known(-1)", x.known(-1), true);
        Told.due("known(-2)", x.known(-2), false);
        Told.due("first", x.see(60, 0, 0, true), 0);
        Told.due("so", x.bolds(0), 1023);
        Told.due("second, wrong", x.see(60, 0, 1, true), 1);
        Told.due("not so", x.bolds(0), 0);
        Told.due("by one", x.known(1), true);
        Told.due("so by one", x.bolds(0), 1023);
        Told.due("strikes", x.strike(1), 2);
        Told.due("by two", x.known(2) && x.bolds(0) == 0, true);
        Told.due("by three", x.known(3) && x.bolds(0) == 1023, true);
        Told.due("strikes what strikes", x.strike(2), 3);
        Told.due("still by three", x.bolds(0), 1023);
        Told.due("by all", x.known(-1) && x.bolds(0) == 0, true);
        Told.due("strikes that", x.strike(3), 4);
        Told.due("also those to come", x.bolds(0), 1023);
        Told.due("strike itself to be", x.strike(5), -1);
        Told.due("strike(1) again", x.strike(1), 5);
        Told.due("strike(4)", x.strike(4), 6);
        Told.due("one of two strikes is enough", x.bolds(0), 1023);
        Told.due("strike(5)", x.strike(5), 7);
        Told.due("none is left", x.bolds(0), 0);
        for (int k = 8; k < 24; k++) {
            Told.due("fact " + k, x.see(1, 0, 0, true), k);
        }
        Told.due("25th", x.see(1, 0, 0, true), -1);
        Told.due("25th", x.strike(0), -1);
        Told.due("24", x.count(10), 24);
        Told.due("known(24)", x.known(24), true);
        Told.due("known(25)", x.known(25), false);
        Told.due("stays 24", x.count(11), 24);
    }

    /** Promise 41. */
    private static void bolds() {
        // Who is bolder than 4 goes to b in the hour 2; at b there is more to take.
        String town = "corner a 0 500;corner b 0 500;lane a b;thief s a 1;thief t a 2;guard g b;grip 40;"
                + "law stir bold>4 and hour=1;law dread 0-guards;";
        ThiefTakers x = Told.of(town);
        x.see(1, 0, 0, true);
        Told.due("all are at a", x.bolds(0), 1023);
        x.see(2, 0, 1, true);
        Told.due("above 4", x.bolds(0), 0b1111100000);
        Told.due("of the other one: 1 is what is told of the first", x.bolds(1), 0);
        Told.due("bolds(2)", x.bolds(2), -1);
        Told.due("bolds(-1)", x.bolds(-1), -1);
        x.bar(0);
        x.drop(0, 9);
        x.go(5);
        Told.due("from the text on, nothing done by call", x.bolds(0), 0b1111100000);
        Told.due("nothing has changed", x.count(5) * 10 + x.thief(0, 1), 51);
        x = Told.of(town);
        x.see(2, 0, 1, false);
        Told.due("not there: 4 at most", x.bolds(0), 0b11111);
        x.see(60, 1, 0, true);
        Told.due("facts of the other one", x.bolds(0), 0b11111);
        x.see(60, 1, 1, true);
        Told.due("which aren't so", x.bolds(0), 0);
        // What one takes moves the other one: he leaves when less than 3 is left.
        x = Told.of("corner a 0 10;corner b 0 0;lane a b;thief s a 0;thief t a 0;law stir loot<3;law dread loot;law take bold;");
        x.see(2, 1, 1, true);
        Told.due("by the other one's place", x.bolds(0), 0b1100000000);
        x = Told.of("corner a 0 0;guard g a;thief s a 3;corner b 9 0;lane a b;");
        x.see(5, 0, 0, true);
        Told.due("caught, he stays: but he went to b, 9-2*1 against 0", x.bolds(0), 1023);
    }

    /** Promise 42. */
    private static void ask() {
        ThiefTakers x = Told.of("corner a 0 999;thief s a 1;");
        Told.due("at once each has another sum", x.ask(0, 0), 1);
        Told.due("one is left", x.ask(0, 1), 1);
        Told.due("what 2", x.ask(0, 2), -1);
        Told.due("what -1", x.ask(0, -1), -1);
        Told.due("thief 1", x.ask(1, 0), -1);
        x = Told.of("corner a 0 999;thief s a 1;law take bold/5*(hour=2)+bold/3*(hour=6);");
        Told.due("bold/5, then bold/5 and bold/3", x.ask(0, 0), 7);
        Told.due("0 1 2, 3 4, 5, 6 7 8, 9", x.ask(0, 1), 3);
        x.see(1, 0, 0, false);
        Told.due("none", x.ask(0, 0), 1);
        Told.due("none left", x.ask(0, 1), 0);
        x = Told.of("corner a 0 999;corner b 0 0;lane a b;thief s a 1;law stir bold>4;law dread loot;law take hour=59 and bold=2;");
        x.see(60, 0, 0, true);
        Told.due("of 0 .. 4 only in the last hour", x.ask(0, 0), 60);
        Told.due("four are left", x.ask(0, 1), 4);
        x = Told.of("corner a 0 9;thief s a 1;law take 0;");
        Told.due("all alike: the first", x.ask(0, 0), 1);
        Told.due("all are left", x.ask(0, 1), 10);
        x = Told.of("corner a 0 9;thief s a 1;");
        Told.due("bold 8 and 9 take all: in the first hour two are left", x.ask(0, 1), 2);
        x = Told.of("corner a 0 999;thief s a 1;law take bold*(hour=1);");
        Told.due("in the second hour", x.ask(0, 0), 2);
        x = Told.of("corner a 0 9;corner b 0 0;lane a b;thief s a 1;law stir bold;law dread loot;");
        x.see(1, 0, 0, true);
        Told.due("0 alone", x.ask(0, 1), 1);
    }
}
