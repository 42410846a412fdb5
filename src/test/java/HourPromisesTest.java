/** Promises 6 to 18 and 43 to 48: the town as it is, calls that change it, hours, what comes of them. */
public final class HourPromisesTest {
    private static final String PATH = "corner a 1 50;corner b 5 10;corner c 2 0;corner d 9 7;"
            + "lane a b;lane b c;lane c d;steps d a;";
    private static final String RUN = PATH + "guard g a;beat g a c;thief t d 2;";

    public static void main(String[] args) {
        corner();
        guard();
        thief();
        lane();
        lawNames();
        lawSigns();
        lawErrors();
        send();
        bar();
        drop();
        go();
        beats();
        thievesGo();
        grips();
        takes();
        ahead();
        caught();
        farAndWay();
        chance();
        tried();
        undo();
        image();
        count();
        Told.end();
    }

    /** Promise 6. */
    private static void corner() {
        ThiefTakers x = Told.of(RUN + "guard h a;thief u d 0;thief v a 0;grip 0;");
        Told.due("light", x.corner(3, 0), 9);
        Told.due("loot", x.corner(3, 1), 7);
        Told.due("guards", x.corner(0, 2), 3);
        Told.due("no guards", x.corner(1, 2), 0);
        Told.due("thieves", x.corner(3, 3), 3);
        Told.due("third thief", x.corner(0, 3), 4);
        Told.due("next to a", x.corner(0, 4), 2);
        Told.due("next to b", x.corner(1, 4), 5);
        Told.due("next to d, by steps too", x.corner(3, 4), 5);
        Told.due("corner(4, 0)", Told.thrownByCorner(x, 4, 0), 1);
        Told.due("corner(-1, 9)", Told.thrownByCorner(x, -1, 9), 1);
        Told.due("corner(0, 5)", Told.thrownByCorner(x, 0, 5), 2);
        Told.due("corner(0, -1)", Told.thrownByCorner(x, 0, -1), 2);
        Told.due("corner(3, 4)", Told.thrownByCorner(x, 3, 4), 0);
        Told.due("without corners", Told.thrownByCorner(new ThiefTakers(), 0, 0), 1);
        x = Told.of("corner a 1 5;guard g a;thief t a 1;thief u a 1;");
        x.go(1);
        Told.due("caught ones are not free", x.corner(0, 3), 0);
        Told.due("loot stays", x.corner(0, 1), 5);
    }

    /** Promise 7. */
    private static void guard() {
        ThiefTakers x = Told.of(PATH + "guard g a;beat g a c;guard h d;thief t d 2;thief u d 0;law stir 0;");
        Told.due("aim at first", x.guard(0, 1), 0);
        Told.due("no beat", x.guard(1, 1), -2);
        x.go(1);
        Told.due("corner", x.guard(0, 0), 1);
        Told.due("aim", x.guard(0, 1), 1);
        Told.due("caught none", x.guard(0, 2), 0);
        Told.due("caught two", x.guard(1, 2), 2);
        Told.due("guard(2, 0)", x.guard(2, 0), -1);
        Told.due("guard(-1, 0)", x.guard(-1, 0), -1);
        Told.due("guard(0, 3)", x.guard(0, 3), -1);
        Told.due("guard(0, -1)", x.guard(0, -1), -1);
    }

    /** Promise 8. */
    private static void thief() {
        ThiefTakers x = Told.of(RUN + "thief u a 7;");
        Told.due("corner", x.thief(0, 0), 3);
        Told.due("bold", x.thief(1, 1), 7);
        Told.due("had", x.thief(0, 2), 0);
        Told.due("free", x.thief(0, 3), -2);
        x.go(4);
        Told.due("had 3 hours 3", x.thief(0, 2), 9);
        Told.due("caught by", x.thief(0, 3), 0);
        Told.due("stays where caught", x.thief(0, 0), 0);
        Told.due("thief(2, 0)", x.thief(2, 0), -1);
        Told.due("thief(-1, 0)", x.thief(-1, 0), -1);
        Told.due("thief(0, 4)", x.thief(0, 4), -1);
        Told.due("thief(0, -1)", x.thief(0, -1), -1);
    }

    /** Promise 9. */
    private static void lane() {
        ThiefTakers x = Told.of(RUN);
        Told.due("from", x.lane(3, 0), 3);
        Told.due("to", x.lane(3, 1), 0);
        Told.due("steps", x.lane(3, 2), 1);
        Told.due("lane", x.lane(2, 2), 0);
        Told.due("not barred", x.lane(2, 3), 0);
        x.bar(2);
        Told.due("barred", x.lane(2, 3), 1);
        Told.due("lane(4, 0)", x.lane(4, 0), -1);
        Told.due("lane(-1, 0)", x.lane(-1, 0), -1);
        Told.due("lane(0, 4)", x.lane(0, 4), -1);
        Told.due("lane(0, -1)", x.lane(0, -1), -1);
    }

    /** Promise 10. */
    private static void lawNames() {
        ThiefTakers x = Told.of("corner a 3 20;corner b 5 7;corner c 8 9;lane a b;guard g a;guard h a;thief t b 4;grip 0;"
                + "law dread light*1000+far*10+guards;law take (loot*100+bold*10+had)*10+hour;law stir guards=2;");
        Told.due("dread of a", x.law(0, 0, 0), 3002);
        Told.due("dread of b", x.law(0, 0, 1), 5010);
        Told.due("dread of c, where no lane leads", x.law(0, 0, 2), 8990);
        Told.due("take", x.law(1, 0, -5), 7400);
        Told.due("stir where he is", x.law(2, 0, 0), 0);
        Told.due("law(3, 0, 0)", x.law(3, 0, 0), Long.MIN_VALUE);
        Told.due("law(-1, 0, 0)", x.law(-1, 0, 0), Long.MIN_VALUE);
        Told.due("law(0, 1, 0)", x.law(0, 1, 0), Long.MIN_VALUE);
        Told.due("law(0, -1, 0)", x.law(0, -1, 0), Long.MIN_VALUE);
        Told.due("law(0, 0, 3)", x.law(0, 0, 3), Long.MIN_VALUE);
        Told.due("law(0, 0, -1)", x.law(0, 0, -1), Long.MIN_VALUE);
        x.go(1);
        Told.due("take is cut to 99, then to loot", x.thief(0, 2), 7);
        Told.due("take then", x.law(1, 0, 0), 471);
        x = Told.of("corner a 3 20;thief t a 4;");
        Told.due("no such law", x.law(0, 0, 0), Long.MIN_VALUE);
        x = Told.of("corner a 3 20;thief t a 4;law dread far;");
        Told.due("far without guards", x.law(0, 0, 0), 99);
    }

    private static void lawSigns() {
        Told.due("2+3*4-10/3", Towns.worth("2+3*4-10/3"), 11);
        Told.due("1-2-3", Towns.worth("1-2-3"), -4);
        Told.due("100/10/5", Towns.worth("100/10/5"), 2);
        Told.due("2*(3+4)", Towns.worth("2*(3+4)"), 14);
        Told.due("7/2", Towns.worth("7/2"), 3);
        Told.due("(0-7)/2", Towns.worth("(0-7)/2"), -3);
        Told.due("7/(0-2)", Towns.worth("7/(0-2)"), -3);
        Told.due("2<3", Towns.worth("2<3"), 1);
        Told.due("3<3", Towns.worth("3<3"), 0);
        Told.due("3<=3", Towns.worth("3<=3"), 1);
        Told.due("4<=3", Towns.worth("4<=3"), 0);
        Told.due("3=3", Towns.worth("3=3"), 1);
        Told.due("3=4", Towns.worth("3=4"), 0);
        Told.due("3<>3", Towns.worth("3<>3"), 0);
        Told.due("3<>4", Towns.worth("3<>4"), 1);
        Told.due("4<>3", Towns.worth("4<>3"), 1);
        Told.due("4<3", Towns.worth("4<3"), 0);
        Told.due("4=3", Towns.worth("4=3"), 0);
        Told.due("3>4", Towns.worth("3>4"), 0);
        Told.due("5>=4", Towns.worth("5>=4"), 1);
        Told.due("2<=3", Towns.worth("2<=3"), 1);
        Told.due("as deep as may be", Towns.worth("((((((((" + "not ".repeat(63) + "1))))))))"), 0);
        Told.due("as deep as may be", Towns.worth("((((((((" + "not ".repeat(62) + "1))))))))"), 1);
        Told.due("3>=4", Towns.worth("3>=4"), 0);
        Told.due("4>=4", Towns.worth("4>=4"), 1);
        Told.due("4>3", Towns.worth("4>3"), 1);
        Told.due("4>4", Towns.worth("4>4"), 0);
        Told.due("not 0", Towns.worth("not 0"), 1);
        Told.due("not 5", Towns.worth("not 5"), 0);
        Told.due("not not 7", Towns.worth("not not 7"), 1);
        Told.due("not 1=2", Towns.worth("not 1=2"), 1);
        Told.due("(not 1)=0", Towns.worth("(not 1)=0"), 1);
        Told.due("not 0 and 0", Towns.worth("not 0 and 0"), 0);
        Told.due("5 and 3", Towns.worth("5 and 3"), 1);
        Told.due("5 and 0", Towns.worth("5 and 0"), 0);
        Told.due("0 or 7", Towns.worth("0 or 7"), 1);
        Told.due("0 or 0", Towns.worth("0 or 0"), 0);
        Told.due("1 or 1 and 0", Towns.worth("1 or 1 and 0"), 1);
        Told.due("(1 or 1) and 0", Towns.worth("(1 or 1) and 0"), 0);
        Told.due("1+1<3 and 2*2>3", Towns.worth("1+1<3 and 2*2>3"), 1);
        Told.due("2-1<2-2", Towns.worth("2-1<2-2"), 0);
    }

    private static void lawErrors() {
        String trillion = "1000*1000*1000*1000";
        Told.due("10 to the 12", Towns.worth(trillion), 1000000000000L);
        Told.due("and 1", Towns.worth(trillion + "+1"), Long.MIN_VALUE);
        Told.due("below", Towns.worth("0-" + trillion), -1000000000000L);
        Told.due("and 1 below", Towns.worth("0-" + trillion + "-1"), Long.MIN_VALUE);
        Told.due("times 2", Towns.worth(trillion + "*2"), Long.MIN_VALUE);
        Told.due("beyond a long", Towns.worth(trillion + "*(" + trillion + ")"), Long.MIN_VALUE);
        Told.due("times 0", Towns.worth(trillion + "*0"), 0);
        Told.due("0 times", Towns.worth("0*(" + trillion + ")"), 0);
        Told.due("times -1", Towns.worth(trillion + "*(0-1)"), -1000000000000L);
        Told.due("too far on the way", Towns.worth(trillion + "*2-" + trillion), Long.MIN_VALUE);
        Told.due("summed up to it", Towns.worth(trillion + "-1+1"), 1000000000000L);
        Told.due("less than less", Towns.worth(trillion + "-1-(0-1)"), 1000000000000L);
        Told.due("and one more", Towns.worth(trillion + "-(0-1)"), Long.MIN_VALUE);
        Told.due("summed down to it", Towns.worth("0-" + trillion + "+1+(0-1)"), -1000000000000L);
        Told.due("and one more", Towns.worth("0-" + trillion + "+(0-1)"), Long.MIN_VALUE);
        Told.due("down and up", Towns.worth("0-" + trillion + "+(" + trillion + ")"), 0);
        Told.due("up and down", Towns.worth(trillion + "-(" + trillion + ")"), 0);
        Told.due("1/0", Towns.worth("1/0"), Long.MIN_VALUE);
        Told.due("0/0", Towns.worth("0/0"), Long.MIN_VALUE);
        Told.due("1 or 1/0", Towns.worth("1 or 1/0"), Long.MIN_VALUE);
        Told.due("0 and 1/0", Towns.worth("0 and 1/0"), Long.MIN_VALUE);
        Told.due("not 1/0", Towns.worth("not 1/0"), Long.MIN_VALUE);
        Told.due("1/0*0", Towns.worth("1/0*0"), Long.MIN_VALUE);
    }

    /** Promise 11. */
    private static void send() {
        ThiefTakers x = Told.of(RUN);
        Told.due("send(0, 3): steps lead from d only", x.send(0, 3), false);
        Told.due("send(0, 0): he is there", x.send(0, 0), false);
        Told.due("send(0, 2): too far", x.send(0, 2), false);
        Told.due("send(0, 1)", x.send(0, 1), true);
        Told.due("is there", x.guard(0, 0), 1);
        Told.due("keeps his aim", x.guard(0, 1), 0);
        Told.due("send(1, 0)", x.send(1, 0), false);
        Told.due("send(-1, 0)", x.send(-1, 0), false);
        Told.due("send(0, 4)", x.send(0, 4), false);
        Told.due("send(0, -1)", x.send(0, -1), false);
        x.bar(0);
        Told.due("a barred lane", x.send(0, 0), false);
        Told.due("only what was done", x.count(12), 2);
    }

    /** Promise 12. */
    private static void bar() {
        ThiefTakers x = Told.of(RUN);
        Told.due("bar(0)", x.bar(0), 1);
        Told.due("next to a", x.corner(0, 4), 0);
        Told.due("next to b", x.corner(1, 4), 4);
        Told.due("bar(3)", x.bar(3), 1);
        Told.due("two", x.count(9), 2);
        Told.due("bar(0) again", x.bar(0), 0);
        Told.due("next to b again", x.corner(1, 4), 5);
        Told.due("bar(4)", x.bar(4), -1);
        Told.due("bar(-1)", x.bar(-1), -1);
        Told.due("three done", x.count(12), 3);
    }

    /** Promise 13. */
    private static void drop() {
        ThiefTakers x = Told.of(RUN);
        Told.due("drop(1, 1)", x.drop(1, 1), 11);
        Told.due("drop(1, 999)", x.drop(1, 999), 1010);
        Told.due("drop(1, 0)", x.drop(1, 0), -1);
        Told.due("drop(1, 1000)", x.drop(1, 1000), -1);
        Told.due("drop(1, -1)", x.drop(1, -1), -1);
        Told.due("drop(4, 1)", x.drop(4, 1), -1);
        Told.due("drop(-1, 1)", x.drop(-1, 1), -1);
        for (int k = 0; k < 8; k++) {
            x.drop(1, 999);
        }
        Told.due("below the most", x.corner(1, 1), 1010 + 8 * 999);
        Told.due("9999 at most", x.drop(1, 999), 9999);
        Told.due("and no more", x.drop(1, 1), 9999);
    }

    /** Promise 14. */
    private static void go() {
        ThiefTakers x = Told.of(RUN);
        Told.due("go(0)", x.go(0), 0);
        Told.due("go(-1)", x.go(-1), -1);
        Told.due("go(201)", x.go(201), -1);
        for (int k = 1; k <= 49; k++) {
            Told.due("go(200)", x.go(200), 200 * k);
        }
        Told.due("it may be 9800", x.go(0), 9800);
        Told.due("one behind 9800", x.go(1), -1);
        Told.due("far behind 9800", x.go(200), -1);
        Told.due("which it is", x.count(5), 9800);
        goEndsBehindTheLast();
    }

    /** It is the hour at the end that may not lie behind 9800: then none at all goes by. */
    private static void goEndsBehindTheLast() {
        ThiefTakers x = Told.of(RUN);
        for (int k = 1; k <= 48; k++) {
            x.go(200);
        }
        Told.due("go(58)", x.go(58), 9658);
        x.drop(1, 5);
        int loot = x.count(7);
        int guardAt = x.guard(0, 0);
        Told.due("would end at 9801", x.go(143), -1);
        Told.due("would end at 9858", x.go(200), -1);
        Told.due("none went by", x.count(5), 9658);
        Told.due("the loot stays", x.count(7), loot);
        Told.due("the guard stays", x.guard(0, 0), guardAt);
        Told.due("no hour, so it can be undone", x.count(12), 1);
        Told.due("ends at 9800", x.go(142), 9800);
        Told.due("what is ahead has no last hour", x.ahead(200, 0, 0) >= 0 ? 1 : 0, 1);
    }

    private static void beats() {
        ThiefTakers x = Told.of(PATH + "guard g a;beat g a c;");
        int[] at = {1, 2, 1, 0, 1, 2};
        for (int k = 0; k < at.length; k++) {
            x.go(1);
            Told.due("hour " + k, x.guard(0, 0), at[k]);
        }
        // A place that comes again is waited out: at the aim the next place is the aim, one place an hour.
        x = Told.of(PATH + "guard g b;beat g b b a;");
        x.go(1);
        Told.due("the second b", x.guard(0, 0) * 10 + x.guard(0, 1), 11);
        x.go(1);
        Told.due("a", x.guard(0, 0) * 10 + x.guard(0, 1), 2);
        x.go(1);
        Told.due("back to the first b", x.guard(0, 0) * 10 + x.guard(0, 1), 10);
        // Not at his aim at first, he goes to its first place.
        x = Told.of(PATH + "guard g d;beat g b a;");
        x.go(1);
        Told.due("a is as near to b as c is: the first", x.guard(0, 0) * 10 + x.guard(0, 1), 0);
        x.bar(0);
        x.go(1);
        Told.due("no lane leads there: stays", x.guard(0, 0), 0);
        x.bar(0);
        x.go(1);
        Told.due("goes on", x.guard(0, 0), 1);
        x.send(0, 2);
        Told.due("sent, he keeps his aim", x.guard(0, 1), 0);
        x.go(1);
        Told.due("goes back to it", x.guard(0, 0), 1);
        x.go(1);
        Told.due("then to the next", x.guard(0, 0) * 10 + x.guard(0, 1), 1);
    }

    private static void thievesGo() {
        // Without a law: light less twice far; a 3-2*2, b 4-2*1, c 5: from b to a.
        ThiefTakers x = Told.of("corner a 3 0;corner b 4 0;corner c 5 0;lane a b;lane b c;guard g c;thief t b 0;");
        x.go(1);
        Told.due("least dread", x.thief(0, 0), 0);
        // Of several his own, then the first by numbers.
        x = Told.of("corner a 3 0;corner b 3 0;corner c 3 0;lane a b;lane b c;thief t b 0;law dread 5;");
        x.go(1);
        Told.due("his own", x.thief(0, 0), 1);
        x = Told.of("corner a 3 0;corner b 4 0;corner c 3 0;lane c b;lane b a;thief t b 0;law dread light;");
        x.go(1);
        Told.due("the first", x.thief(0, 0), 0);
        // An error of one corner alone: there light less twice far is asked.
        x = Told.of("corner a 0 0;corner b 9 0;lane a b;thief t b 0;law dread 100/light-300;");
        x.go(1);
        Told.due("100/0: 0-198 against 11-300", x.thief(0, 0), 1);
        x = Told.of("corner a 0 0;corner b 9 0;lane a b;thief t b 0;law dread 100/light-200;");
        x.go(1);
        Told.due("100/0: 0-198 against 11-200", x.thief(0, 0), 0);
        // Stir: 0 stays, an error goes.
        x = Told.of("corner a 0 0;corner b 9 0;lane a b;thief t b 0;thief u b 1;law stir bold;law dread light;");
        x.go(1);
        Told.due("doesn't stir", x.thief(0, 0), 1);
        Told.due("stirs", x.thief(1, 0), 0);
        x = Told.of("corner a 0 0;corner b 9 0;lane a b;thief t b 0;law stir 1/0;law dread light;");
        x.go(1);
        Told.due("an error stirs", x.thief(0, 0), 0);
        // Guards walk first: far is asked of where they are by then.
        x = Told.of("corner a 0 0;corner b 0 0;corner c 0 0;lane a b;lane b c;guard g a;beat g b;thief t c 0;law dread 0-far;");
        x.go(1);
        Told.due("c is 1 far by then, b 0", x.thief(0, 0), 2);
        // Steps can't be gone back.
        x = Told.of("corner a 0 0;corner b 9 0;steps a b;thief t b 0;law dread light;");
        x.go(1);
        Told.due("no way back", x.thief(0, 0), 1);
    }

    private static long drawn(long last) {
        return (last * 1103515245L + 12345L) % 2147483648L;
    }

    private static void grips() {
        // One number an hour and pair, until he is caught.
        for (int seed : new int[] {0, 7, 12345, 99999}) {
            ThiefTakers x = Told.of("corner a 0 99;guard g a;thief t a 0;grip 20;seed " + seed + ";");
            long last = seed;
            boolean free = true;
            for (int hour = 1; hour <= 30; hour++) {
                if (free) {
                    last = drawn(last);
                    free = last / 65536 % 100 >= 20;
                }
                x.go(1);
                Told.due("seed " + seed + " hour " + hour, x.thief(0, 3), free ? -2 : 0);
            }
        }
        // Two guards, two thieves: by guards, then by thieves; who is caught isn't asked again.
        ThiefTakers x = Told.of("corner a 0 99;guard g a;guard h a;thief t a 0;thief u a 0;grip 40;seed 5;");
        long last = 5;
        int[] by = {-2, -2};
        int[] many = {0, 0};
        for (int hour = 1; hour <= 12; hour++) {
            for (int guard = 0; guard < 2; guard++) {
                for (int thief = 0; thief < 2; thief++) {
                    if (by[thief] == -2) {
                        last = drawn(last);
                        if (last / 65536 % 100 < 40) {
                            by[thief] = guard;
                            many[guard]++;
                        }
                    }
                }
            }
            x.go(1);
            Told.due("first thief", x.thief(0, 3), by[0]);
            Told.due("second thief", x.thief(1, 3), by[1]);
            Told.due("first guard", x.guard(0, 2), many[0]);
            Told.due("second guard", x.guard(1, 2), many[1]);
        }
        x = Told.of("corner a 0 99;guard g a;thief t a 0;grip 0;");
        x.go(50);
        Told.due("grip 0", x.thief(0, 3), -2);
        x = Told.of("corner a 0 99;guard g a;thief t a 0;");
        x.go(1);
        Told.due("grip 100 untold", x.thief(0, 3), 0);
    }

    private static void takes() {
        ThiefTakers x = Told.of("corner a 0 10;thief t a 3;thief u a 9;");
        x.go(1);
        Told.due("bold and 1", x.thief(0, 2), 4);
        Told.due("all that is there", x.thief(1, 2), 6);
        Told.due("nothing left", x.corner(0, 1), 0);
        x = Told.of("corner a 0 900;thief t a 3;law take 100;");
        x.go(1);
        Told.due("99 at most", x.thief(0, 2), 99);
        x = Told.of("corner a 0 900;thief t a 3;law take 0-5;");
        x.go(1);
        Told.due("0 at least", x.thief(0, 2), 0);
        x = Told.of("corner a 0 900;thief t a 3;law take 1/0;");
        x.go(1);
        Told.due("an error: bold and 1", x.thief(0, 2), 4);
        x = Told.of("corner a 0 100;thief t a 0;thief u a 0;law take loot/10+hour;");
        x.go(1);
        Told.due("the first takes of 100", x.thief(0, 2), 10);
        Told.due("the second takes of 90", x.thief(1, 2), 9);
        x.go(1);
        Told.due("of 81 in hour 1", x.thief(0, 2), 10 + 9);
    }

    /** Promise 15. */
    private static void ahead() {
        ThiefTakers x = Told.of(RUN + "grip 50;");
        Told.due("caught then", x.ahead(4, 0, -7), 1);
        Told.due("not yet", x.ahead(3, 0, 0), 0);
        Told.due("had", x.ahead(3, 1, 0), 9);
        Told.due("loot of all", x.ahead(3, 2, 99), 58);
        Told.due("guard", x.ahead(2, 3, 0), 2);
        Told.due("thief", x.ahead(1, 4, 0), 0);
        Told.due("now", x.ahead(0, 4, 0), 3);
        Told.due("200", x.ahead(200, 0, 0), 1);
        Told.due("nothing has changed", x.count(5) + x.count(6) + x.count(8), 0);
        Told.due("ahead(-1)", x.ahead(-1, 0, 0), -1);
        Told.due("ahead(201)", x.ahead(201, 0, 0), -1);
        Told.due("what 5", x.ahead(1, 5, 0), -1);
        Told.due("what -1", x.ahead(1, -1, 0), -1);
        Told.due("thief 1", x.ahead(1, 1, 1), -1);
        Told.due("thief -1", x.ahead(1, 4, -1), -1);
        Told.due("guard 1", x.ahead(1, 3, 1), -1);
        Told.due("grip 49 doesn't hold", Told.of(RUN + "grip 49;").ahead(200, 0, 0), 0);
    }

    /** Promise 16. */
    private static void caught() {
        ThiefTakers x = Told.of(RUN);
        Told.due("in 4 hours", x.caught(0), 4);
        x.go(3);
        Told.due("in 1 hour", x.caught(0), 1);
        x.go(1);
        Told.due("he is", x.caught(0), 0);
        Told.due("caught(1)", x.caught(1), -1);
        Told.due("caught(-1)", x.caught(-1), -1);
        Told.due("never", Told.of(RUN + "grip 10;").caught(0), -2);
        // He stays apart until an hour comes.
        String apart = "corner a 0 0;corner b 0 0;lane a b;guard g a;thief t b 0;law stir 1;law dread light-";
        Told.due("199", Told.of(apart.replace("light-", "guards*(hour<198)-guards;")).caught(0), 199);
        Told.due("200", Told.of(apart.replace("light-", "guards*(hour<199)*2-guards;")).caught(0), -2);
    }

    /** Promises 17 and 18. */
    private static void farAndWay() {
        ThiefTakers x = Told.of(PATH + "corner e 0 0;");
        Told.due("far(0, 3)", x.far(0, 3), 3);
        Told.due("far(3, 0)", x.far(3, 0), 1);
        Told.due("far(2, 2)", x.far(2, 2), 0);
        Told.due("far(0, 4)", x.far(0, 4), 99);
        Told.due("far(5, 0)", x.far(5, 0), -1);
        Told.due("far(0, -1)", x.far(0, -1), -1);
        int[] way = {3, 0, 1, -2, -2};
        for (int k = 0; k < way.length; k++) {
            Told.due("way(3, 1, " + k + "): the first of two", x.way(3, 1, k), way[k]);
        }
        Told.due("to itself", x.way(2, 2, 0), 2);
        Told.due("and no more", x.way(2, 2, 1), -2);
        Told.due("none leads there", x.way(0, 4, 0), -2);
        Told.due("k -1", x.way(0, 1, -1), -1);
        Told.due("k great", x.way(0, 1, 2147483647), -2);
        Told.due("no corner", x.way(0, 5, 0), -1);
        Told.due("no corner", x.way(-1, 0, 0), -1);
        x.bar(1);
        Told.due("barred", x.far(0, 3), 99);
        Told.due("barred way", x.way(0, 3, 0), -2);
    }

    /** Promise 43. */
    private static void chance() {
        ThiefTakers x = Told.of("corner a 0 99;guard g a;thief t a 0;thief u a 5;grip 30;");
        for (int seed : new int[] {0, 1, 424242, 2147483647}) {
            long last = seed;
            int[] times = {0, 0};
            for (int time = 0; time < 10; time++) {
                boolean[] free = {true, true};
                for (int hour = 0; hour < 2; hour++) {
                    for (int thief = 0; thief < 2; thief++) {
                        if (free[thief]) {
                            last = drawn(last);
                            free[thief] = last / 65536 % 100 >= 30;
                        }
                    }
                }
                times[0] += free[0] ? 0 : 1;
                times[1] += free[1] ? 0 : 1;
            }
            Told.due("chance of the first", x.chance(seed, 2, 0), times[0]);
            Told.due("chance of the second", x.chance(seed, 2, 1), times[1]);
        }
        Told.due("seed -1", x.chance(-1, 1, 0), -1);
        Told.due("n 0", x.chance(1, 0, 0), -1);
        Told.due("n 100", x.chance(1, 100, 0), -1);
        Told.due("thief 2", x.chance(1, 1, 2), -1);
        Told.due("thief -1", x.chance(1, 1, -1), -1);
        Told.due("nothing has changed", x.count(5) + x.count(6), 0);
        Told.due("n 99", Told.of(RUN).chance(1, 99, 0), 10);
        x = Told.of(RUN);
        x.go(4);
        Told.due("caught already", x.chance(1, 1, 0), 10);
    }

    /** Promise 44. */
    private static void tried() {
        ThiefTakers x = Told.of(RUN + "grip 10;");
        Told.due("each grip holds", x.tried(0, 0, 5), 9);
        Told.due("none does", Told.of(RUN).tried(1, 0, 5), 15);
        Told.due("as it goes none does", x.tried(2, 0, 0), 0);
        Told.due("guard 0 stays: he goes to c", x.tried(2, 0, 3), 0);
        Told.due("nobody stirs", x.tried(3, 0, 3), 7);
        Told.due("nobody stirs, the law isn't asked", Told.of(RUN + "law stir 1;").tried(3, 0, 3), 7);
        x.bar(3);
        Told.due("both ways, barred or not", x.tried(4, 0, 1), 3);
        Told.due("he who stays grips", Told.of("corner a 0 9;guard g a;thief t a 1;").tried(2, 0, 5), 0);
        Told.due("what all had", Told.of("corner a 0 9;thief t a 1;thief u a 2;").tried(3, 0, 1), 5);
        Told.due("steps back", Told.of("corner a 0 9;corner b 1 0;steps a b;thief t b 1;law dread light;").tried(4, 0, 1), 2);
        Told.due("what 5", x.tried(5, 0, 1), -1);
        Told.due("what -1", x.tried(-1, 0, 1), -1);
        Told.due("n 200", Told.of(RUN).tried(0, 0, 200), 9);
        Told.due("n 201", x.tried(0, 0, 201), -1);
        Told.due("n -1", x.tried(0, 0, -1), -1);
        Told.due("i 1", x.tried(0, 1, 1), -1);
        Told.due("guard 1", x.tried(2, 1, 1), -1);
        Told.due("nothing has changed", x.count(5) + x.count(8), 0);
        x = Told.of("corner a 0 9;thief t a 1;");
        x.go(2);
        Told.due("what was had counts", x.tried(0, 0, 0), 4);
        Told.due("no guard to stay", x.tried(2, 0, 1), -1);
    }

    /** Promise 45. */
    private static void undo() {
        ThiefTakers x = Told.of(RUN);
        Told.due("nothing", x.undo(), -1);
        x.send(0, 1);
        x.bar(0);
        x.drop(2, 30);
        x.send(0, 2);
        Told.due("four", x.count(12), 4);
        Told.due("undo send", x.undo(), 3);
        Told.due("back at b", x.guard(0, 0), 1);
        Told.due("undo drop", x.undo(), 2);
        Told.due("no loot", x.corner(2, 1), 0);
        Told.due("go(0) lets it be", x.go(0), 0);
        Told.due("undo bar", x.undo(), 1);
        Told.due("far again", x.far(0, 1), 1);
        Told.due("undo send", x.undo(), 0);
        Told.due("back at a", x.guard(0, 0), 0);
        Told.due("nothing left", x.undo(), -1);
        for (int k = 0; k < 25; k++) {
            x.drop(2, 1);
        }
        Told.due("20 at most", x.count(12), 20);
        for (int k = 19; k >= 0; k--) {
            Told.due("undo one of 20", x.undo(), k);
        }
        Told.due("no more", x.undo(), -1);
        Told.due("the first five stay", x.corner(2, 1), 5);
        x.drop(2, 1);
        x.go(1);
        Told.due("an hour went by", x.undo(), -1);
        x = Told.of(RUN);
        x.drop(3, 1);
        x.bar(0);
        x.bar(0);
        for (int k = 0; k < 9; k++) {
            x.drop(k % 4, 1);
            x.send(0, 1 - k % 2);
        }
        Told.due("20 of 21", x.count(12), 20);
        for (int k = 19; k >= 0; k--) {
            Told.due("undo one of 20 kinds", x.undo(), k);
        }
        Told.due("all but the first: guard", x.guard(0, 0), 0);
        Told.due("all but the first: lane", x.count(9), 0);
        Told.due("all but the first: loot", x.count(7), 68);
        Told.due("all but the first: loot", x.corner(3, 1), 8);
        x = Told.of(RUN);
        for (int k = 0; k < 11; k++) {
            x.drop(0, 999);
        }
        x.undo();
        x.undo();
        Told.due("what was cut comes back whole", x.corner(0, 1), 50 + 9 * 999);
    }

    /** Promises 46 and 47. */
    private static void image() {
        ThiefTakers x = Told.of(RUN + "grip 30;seed 77;");
        Told.due("no image", x.back(), -1);
        x.bar(1);
        x.go(2);
        x.drop(1, 5);
        Told.due("keep", x.keep(), 2);
        Told.due("can still be undone", x.count(12), 1);
        int had = x.thief(0, 2);
        int at = x.guard(0, 0);
        int aim = x.guard(0, 1);
        x.bar(1);
        x.see(1, 0, 0, true);
        x.known(0);
        x.go(9);
        int first = state(x);
        x.drop(0, 9);
        Told.due("back", x.back(), 2);
        Told.due("had", x.thief(0, 2), had);
        Told.due("guard", x.guard(0, 0), at);
        Told.due("aim", x.guard(0, 1), aim);
        Told.due("barred", x.lane(1, 3), 1);
        Told.due("next is as barred", x.corner(1, 4), 1);
        Told.due("loot", x.corner(1, 1), 15);
        Told.due("nothing to undo", x.count(12), 0);
        Told.due("facts stay", x.count(10), 1);
        Told.due("known stays", x.count(11), 0);
        x.bar(1);
        x.go(9);
        Told.due("the same numbers come", state(x), first);
        Told.due("back again", x.back(), 2);
        x.go(1);
        Told.due("keep in place of it", x.keep(), 3);
        x.go(1);
        Told.due("the new one", x.back(), 3);
        x = Told.of("corner a 0 9;guard g a;thief t a 0;");
        x.keep();
        x.go(1);
        Told.due("one caught", x.guard(0, 2), 1);
        x.back();
        Told.due("none caught", x.guard(0, 2), 0);
        Told.due("he is free", x.thief(0, 3), -2);
        Told.due("nobody is caught", x.count(6), 0);
    }

    private static int state(ThiefTakers x) {
        return x.thief(0, 0) + 10 * x.thief(0, 2) + 10000 * (x.thief(0, 3) + 2) + 100000 * x.guard(0, 0);
    }

    /** Promise 48. */
    private static void count() {
        ThiefTakers x = Told.of(RUN + "guard h c;thief u b 1;law take 2*bold;");
        int[] due = {4, 4, 2, 2, 3, 0, 0, 67, 0, 0, 0, 0, 0};
        for (int what = 0; what < due.length; what++) {
            Told.due("count(" + what + ")", x.count(what), due[what]);
        }
        x.bar(0);
        x.bar(3);
        x.see(1, 0, 0, true);
        x.see(2, 0, 0, true);
        x.strike(0);
        Told.due("barred", x.count(9), 2);
        Told.due("facts", x.count(10), 3);
        Told.due("known by all", x.count(11), 3);
        x.known(2);
        Told.due("known by two", x.count(11), 2);
        Told.due("undo", x.count(12), 2);
        Told.due("count(13)", x.count(13), -1);
        Told.due("count(-1)", x.count(-1), -1);
        x = Told.of("corner a 0 9;corner b 0 5;guard g a;thief t a 1;thief u b 2;");
        x.go(1);
        Told.due("hour", x.count(5), 1);
        Told.due("caught", x.count(6), 1);
        Told.due("loot", x.count(7), 11);
        Told.due("had", x.count(8), 3);
    }
}
