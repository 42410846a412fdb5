import java.util.function.ToLongFunction;

/** Promises 43 to 48 at their edges: chance, what is tried otherwise, undoing, images, counts. */
public final class ImageBoundariesTest {
    public static void main(String[] args) {
        Promises.run(ImageBoundariesTest.class, 43, 48, args);
    }

    private static void promise43_chance_seed0To2147483647() {
        Alike busy = new Alike(Towns::busy);
        for (int seed : new int[] {-1, -2, -256, -65536, Integer.MIN_VALUE}) {
            busy.leaves("seed " + seed, x -> x.chance(seed, 1, 0), -1);
        }
        for (int seed : new int[] {0, 1, 99999, 100000, Integer.MAX_VALUE - 1, Integer.MAX_VALUE}) {
            Told.due("seed " + seed, Towns.busy().chance(seed, 1, 1), 10);
        }
    }

    private static void promise43_chance_numbersOneBehindAnother() {
        for (int seed : new int[] {0, 1, 99999, 100000, Integer.MAX_VALUE - 1, Integer.MAX_VALUE}) {
            for (int grip : new int[] {1, 50, 99}) {
                long last = seed;
                int times = 0;
                for (int time = 0; time < 10; time++) {
                    last = (last * 1103515245L + 12345L) % 2147483648L;
                    times += last / 65536 % 100 < grip ? 1 : 0;
                }
                ThiefTakers x = Told.of("corner a 0 0;guard g a;thief t a 0;seed 5;grip " + grip + ";");
                Told.due("one hour, seed " + seed + ", grip " + grip, x.chance(seed, 1, 0), times);
            }
        }
    }

    private static void promise43_chance_1To99Hours() {
        new Alike(Towns::busy).takes("n", 1, 99, (x, n) -> x.chance(1, n, 0), -1);
        // He goes to the guard in that hour.
        String town = "corner a 0 0;corner b 0 0;lane a b;guard g a;thief t b 0;law dread guards*2*(hour<H)-guards;";
        for (int hours : new int[] {1, 2, 98, 99}) {
            ThiefTakers x = Told.of(town.replace("H", "" + (hours - 1)));
            Told.due("caught behind " + hours, x.chance(1, hours, 0), 10);
            if (hours > 1) {
                Told.due("not behind one less", x.chance(1, hours - 1, 0), 0);
            }
        }
    }

    private static void promise43_chance_noSuchThief() {
        new Alike(Towns::busy).takes("thief", 0, 2, (x, thief) -> x.chance(1, 1, thief), -1);
        new Alike(Towns::full).takes("thief", 0, 3, (x, thief) -> x.chance(0, 99, thief), -1);
        new Alike(ThiefTakers::new).leaves("in no town", x -> x.chance(1, 1, 0), -1);
    }

    private static void promise43_chance_ofOneCaughtAndOfGrips0And100() {
        String town = "corner a 0 0;guard g a;thief t a 0;grip ";
        Told.due("grip 0", Told.of(town + "0;").chance(1, 99, 0), 0);
        Told.due("grip 100", Told.of(town + "100;").chance(1, 1, 0), 10);
        ThiefTakers x = Told.of(town + "1;seed 0;");
        x.go(1);
        Told.due("caught by the number 0", x.chance(7, 1, 0), 10);
    }

    private static void promise44_tried_noSuchOnes() {
        Alike busy = new Alike(Towns::busy);
        busy.takes("what", 0, 4, (x, what) -> x.tried(what, 0, 1), -1);
        busy.takes("guard", 0, 1, (x, guard) -> x.tried(2, guard, 1), -1);
        for (int what : new int[] {0, 1, 3, 4}) {
            busy.takes("i of " + what, 0, 0, (x, i) -> x.tried(what, i, 1), -1);
        }
        new Alike(Towns::full).takes("guard", 0, 2, (x, guard) -> x.tried(2, guard, 1), -1);
        Alike none = new Alike(ThiefTakers::new);
        for (int what = 0; what <= 4; what++) {
            int asked = what;
            none.leaves("of nothing, what " + what, x -> x.tried(asked, 0, 200), what == 2 ? -1 : 0);
        }
    }

    private static void promise44_tried_0To200Hours() {
        Alike busy = new Alike(Towns::busy);
        for (int what = 0; what <= 4; what++) {
            int asked = what;
            busy.takes("n of " + what, 0, 200, (x, n) -> x.tried(asked, 0, n), -1);
            Told.due("0 hours of " + what, Towns.busy().tried(what, 0, 0), 30);
        }
        ThiefTakers x = Told.of("corner a 0 999;thief t a 0;");
        for (int n : new int[] {0, 1, 199, 200}) {
            Told.due("one each hour of " + n, x.tried(0, 0, n), n);
        }
    }

    private static void promise44_tried_gripsAtTheirEdges() {
        for (int grip : new int[] {0, 1, 49, 50, 99, 100}) {
            String town = "corner a 0 999;guard g a;thief t a 0;grip " + grip + ";";
            Told.due("each holds, grip " + grip, Told.of(town).tried(0, 0, 9), 0);
            Told.due("none does, grip " + grip, Told.of(town).tried(1, 0, 9), 9);
            Told.due("as it goes, grip " + grip, Told.of(town).tried(2, 0, 9), grip >= 50 ? 0 : 9);
        }
    }

    private static void promise44_tried_whoIsCaughtStaysSo() {
        ThiefTakers x = Told.of("corner a 0 999;guard g a;thief t a 0;");
        x.go(1);
        Told.due("none of the grips to come holds, but that one did", x.tried(1, 0, 9), 0);
    }

    private static void promise44_tried_thatGuardStaysAndGripsAllTheSame() {
        // g walks from a to b in the first hour, h stays at c; s is at a, t at b, u at c.
        String town = Towns.path(4) + "guard g a;beat g b;guard h c;thief s a 0;thief t b 0;thief u c 0;law stir 0;";
        ThiefTakers x = Told.of(town);
        for (int corner = 0; corner < 4; corner++) {
            x.drop(corner, 999);
        }
        Told.due("as it goes: t and u are caught", x.ahead(1, 1, 0) * 100 + x.ahead(1, 1, 1) * 10 + x.ahead(1, 1, 2), 100);
        Told.due("had by s", x.tried(2, 1, 5), 5);
        x = Told.of(town.replace("law stir 0;", "law stir 0;law take (far=0)*1+(far=1)*20+(far=2)*30;"));
        for (int corner = 0; corner < 4; corner++) {
            x.drop(corner, 999);
        }
        Told.due("the other one stays: no change", x.tried(2, 1, 1), 20);
        Told.due("g stays at a: s is caught, t isn't", x.tried(2, 0, 1), 20);
        x = Told.of(town.replace("thief t b 0;", "thief t b 8;"));
        for (int corner = 0; corner < 4; corner++) {
            x.drop(corner, 999);
        }
        Told.due("h stays: s has 1 an hour", x.tried(2, 1, 3), 3);
        Told.due("g stays: t has 9 an hour", x.tried(2, 0, 3), 27);
    }

    private static void promise44_tried_nobodyStirs() {
        for (String stir : new String[] {"", "law stir 0;", "law stir 1;", "law stir 1/0;"}) {
            ThiefTakers x = Told.of("corner a 9 999;corner b 0 0;lane a b;thief s a 6;" + stir);
            Told.due("at a " + stir, x.tried(3, 0, 9), 63);
            Told.due("as it goes " + stir, x.tried(0, 0, 9), stir.equals("law stir 0;") ? 63 : 0);
        }
    }

    private static void promise44_tried_lanesLeadBothWaysBarredOrNot() {
        String town = "corner a 0 99;corner b 9 0;thief s b 4;law dread light;";
        for (String lane : new String[] {"lane a b;", "lane b a;", "steps a b;", "steps b a;"}) {
            for (int bars = 0; bars <= 2; bars++) {
                ThiefTakers x = Told.of(town + lane);
                for (int k = 0; k < bars; k++) {
                    x.bar(0);
                }
                Told.due(bars + " times barred: " + lane, x.tried(4, 0, 2), 10);
                boolean open = bars != 1 && !lane.equals("steps a b;");
                Told.due(bars + " times barred, as it goes: " + lane, x.tried(0, 0, 2), open ? 10 : 0);
            }
        }
        // FAR by that, too: he walks against the steps to his aim, and is far from nowhere.
        ThiefTakers x = Told.of("corner a 0 99;corner b 0 99;steps a b;guard g b;beat g a;thief s b 0;law stir 0;law take far;");
        Told.due("the guard has gone: one far", x.tried(4, 0, 1), 1);
        x = Told.of("corner a 0 99;corner b 0 99;steps a b;guard g b;thief s a 0;law stir 0;law take far;");
        Told.due("one far from a", x.tried(4, 0, 1), 1);
        x = Told.of("corner a 0 99;corner b 0 99;steps a b;guard g b;thief s a 0;law stir 0;law take far;");
        Told.due("99 far as it goes", x.tried(0, 0, 1), 99);
        Told.due("where none is", Told.of("corner a 0 99;corner b 0 9;thief s b 4;law dread light;").tried(4, 0, 1), 5);
    }

    private static void promise44_tried_askedAllStays() {
        Alike busy = new Alike(Towns::busy);
        ToLongFunction<ThiefTakers> ahead = x -> x.ahead(5, 2, 0) * 100000L + x.tried(0, 0, 5) * 1000L + x.caught(0);
        long due = ahead.applyAsLong(Towns.busy());
        for (int what = 0; what <= 4; what++) {
            int asked = what;
            busy.asked("tried " + what, x -> x.tried(asked, 0, 5));
            ThiefTakers x = Towns.busy();
            x.tried(asked, 0, 5);
            Told.due("what comes behind tried " + what, ahead.applyAsLong(x), due);
        }
        busy.asked("tried of guard 1", x -> x.tried(2, 1, 200));
        new Alike(Towns::busy).asked("chance", x -> x.chance(77, 9, 0));
    }

    private static void promise45_undo_noneIsLeft() {
        new Alike(ThiefTakers::new).leaves("nothing was done", ThiefTakers::undo, -1);
        Alike fresh = new Alike(() -> Told.of(Towns.BUSY));
        fresh.leaves("nothing was done by call", ThiefTakers::undo, -1);
        fresh.leaves("done, undone, and no more", x -> x.bar(0) * 100 + x.undo() * 10 + x.undo(), 99);
        new Alike(() -> undone(Towns.busy(), 3)).leaves("all undone", ThiefTakers::undo, -1);
    }

    private static ThiefTakers undone(ThiefTakers x, int times) {
        for (int k = 0; k < times; k++) {
            x.undo();
        }
        return x;
    }

    private static ThiefTakers dropped(int times) {
        ThiefTakers x = Told.of("corner a 0 0;corner b 0 0;lane a b;guard g a;");
        for (int k = 0; k < times; k++) {
            x.drop(0, 1);
        }
        return x;
    }

    private static void promise45_undo_20AtMost() {
        for (int times : new int[] {1, 19, 20, 21, 22, 45}) {
            ThiefTakers x = dropped(times);
            int kept = Math.min(times, 20);
            Told.due("kept of " + times, x.count(12), kept);
            for (int left = kept - 1; left >= 0; left--) {
                Told.due("left of " + times, x.undo(), left);
                Told.due("loot then", x.corner(0, 1), times - kept + left);
            }
            Told.due("no more of " + times, x.undo(), -1);
            Told.due("what is forgotten stays", x.corner(0, 1), times - kept);
        }
    }

    private static void promise45_undo_theLatestFirstOfEachKind() {
        ThiefTakers x = dropped(0);
        x.send(0, 1);
        x.drop(1, 7);
        x.bar(0);
        Told.due("three", x.count(12), 3);
        Told.due("the bar first", x.undo() * 10 + x.count(9), 20);
        Told.due("then the loot", x.undo() * 10 + x.corner(1, 1), 10);
        Told.due("then the guard", x.undo() * 10 + x.guard(0, 0), 0);
    }

    private static void promise45_undo_20OfAllKinds() {
        for (int times : new int[] {19, 20, 21, 22, 23, 40}) {
            ThiefTakers x = withDeeds(times);
            int forgotten = Math.max(0, times - 20);
            Told.due("can be undone of " + times, x.count(12), times - forgotten);
            for (int left = times - 1; left >= forgotten; left--) {
                Told.due("undone " + left + " of " + times, x.undo(), left - forgotten);
                Told.same("as it was ahead of " + left + " of " + times, deedsOf(x), deedsOf(withDeeds(left)));
            }
            Told.due("no more", x.undo(), -1);
        }
    }

    /** A town in which so many things were done by call, of all kinds in turn. */
    private static ThiefTakers withDeeds(int times) {
        ThiefTakers x = Told.of(Towns.path(5) + "guard g a;guard h e;");
        for (int k = 0; k < times; k++) {
            switch (k * 7 % 5) {
                case 0 -> x.send(0, 1 - x.guard(0, 0));
                case 1 -> x.bar(2);
                case 2 -> x.drop(k % 5, k + 1);
                case 3 -> x.send(1, 7 - x.guard(1, 0));
                default -> x.bar(1);
            }
        }
        return x;
    }

    /** All that was done there. */
    private static String deedsOf(ThiefTakers x) {
        StringBuilder all = new StringBuilder();
        for (int guard = 0; guard < 2; guard++) {
            all.append("guard ").append(x.guard(guard, 0)).append('\n');
        }
        for (int lane = 1; lane <= 2; lane++) {
            all.append("lane ").append(x.lane(lane, 3)).append('\n');
        }
        for (int corner = 0; corner < 5; corner++) {
            all.append("corner ").append(x.corner(corner, 1)).append(" next to ").append(x.corner(corner, 4)).append('\n');
        }
        return all.toString();
    }

    private static void promise45_undo_ifNoHourWentBy() {
        ThiefTakers x = dropped(3);
        x.go(0);
        Told.due("no hour", x.undo(), 2);
        x.go(-1);
        x.go(201);
        Told.due("none of these did", x.undo(), 1);
        x.go(1);
        Told.due("one did", x.undo(), -1);
        Told.due("none is left", x.count(12), 0);
        x.drop(0, 1);
        Told.due("one since", x.count(12) * 10 + x.undo(), 10);
        Told.due("only that", x.corner(0, 1), 1);
    }

    private static void promise45_undo_whatWasRefusedOrOnlyAskedIsntThere() {
        ThiefTakers x = dropped(1);
        x.drop(0, 0);
        x.drop(0, 1000);
        x.drop(2, 1);
        x.bar(1);
        x.bar(-1);
        x.send(0, 0);
        x.send(1, 1);
        x.ahead(5, 0, 0);
        x.tried(0, 0, 5);
        Told.due("one", x.count(12), 1);
        Told.due("undone", x.undo(), 0);
        Told.due("the loot", x.corner(0, 1), 0);
    }

    private static void promise46_keep_inPlaceOfOneAhead() {
        ThiefTakers x = Told.of(Towns.BUSY);
        Told.due("hour 0", x.keep(), 0);
        x.go(2);
        Told.due("hour 2", x.keep(), 2);
        x.go(2);
        Told.due("the latest", x.back(), 2);
        Told.due("and again", x.back(), 2);
        new Alike(Towns::busy).leaves("keep", ThiefTakers::keep, 3, Whole.IMAGE);
        Told.due("of nothing", new ThiefTakers().keep(), 0);
    }

    private static void promise46_keep_inTheLastHour() {
        ThiefTakers x = Told.of(Towns.BUSY);
        for (int k = 0; k < 49; k++) {
            x.go(200);
        }
        Told.due("hour 9800", x.keep(), 9800);
        Told.due("back", x.back(), 9800);
    }

    private static void promise47_back_thereIsNone() {
        new Alike(ThiefTakers::new).leaves("never kept", ThiefTakers::back, -1);
        Alike none = new Alike(() -> {
            ThiefTakers x = Towns.busy();
            x.text(0);
            Told.tell(x, Towns.BUSY);
            x.go(2);
            x.drop(0, 5);
            return x;
        });
        none.leaves("not since the text", ThiefTakers::back, -1);
    }

    private static void promise47_back_behindATextWithAFaultThereIsOne() {
        ThiefTakers x = Told.of(Towns.BUSY);
        x.keep();
        x.go(3);
        Told.due("a fault", Told.tell(x, "corner a"), -1);
        Told.due("no text", x.text(1), -2);
        Told.due("the image is still there", x.back(), 0);
    }

    private static void promise47_back_allIsAsInTheImage() {
        ToLongFunction<ThiefTakers> astray = x -> {
            x.keep();
            x.bar(1);
            x.drop(2, 99);
            x.send(1, 3);
            x.go(7);
            x.bar(2);
            return x.back();
        };
        Alike kept = new Alike(() -> {
            ThiefTakers x = Towns.busy();
            x.keep();
            return x;
        });
        // Nothing can be undone then; all else is as it was, what comes by the numbers too.
        kept.leaves("away and back", astray, 3, Whole.IS, Whole.UNDONE);
        ThiefTakers x = Towns.busy();
        astray.applyAsLong(x);
        Told.due("nothing to undo", x.count(12), 0);
        Told.due("none", x.undo(), -1);
        String was = Whole.IS.of(Towns.busy()).replace("count 12 3", "count 12 0");
        x = Towns.busy();
        astray.applyAsLong(x);
        Told.same("as it was", Whole.IS.of(x), was);
    }

    private static void promise47_back_allOfAFullTown() {
        for (String grip : new String[] {"grip 30;", "grip 70;"}) {
            String text = Towns.FULL.replace("grip 30;", grip);
            String was = Whole.IS.of(inHour4(text)).replace("count 12 2", "count 12 0");
            String comes = Whole.COMES.of(inHour4(text));
            Told.same("as it was", Whole.IS.of(awayAndBack(text)), was);
            Told.same("what comes", Whole.COMES.of(awayAndBack(text)), comes);
            ThiefTakers x = awayAndBack(text);
            x.go(9);
            Told.due("back once more", x.back(), 4);
            Told.same("as it was once more", Whole.COMES.of(x), comes);
        }
    }

    private static ThiefTakers inHour4(String text) {
        ThiefTakers x = Told.of(text);
        x.go(4);
        x.bar(7);
        x.bar(19);
        return x;
    }

    private static ThiefTakers awayAndBack(String text) {
        ThiefTakers x = inHour4(text);
        x.keep();
        x.go(60);
        for (int lane = 0; lane < 20; lane++) {
            x.bar(lane);
        }
        for (int corner = 0; corner < 10; corner++) {
            x.drop(corner, 100 + corner);
        }
        Told.due("back", x.back(), 4);
        return x;
    }

    private static void promise47_back_ofEachGuardAndThief() {
        // Guard and thief of that number meet in the second hour, where the others are alone.
        for (int guard = 0; guard < 3; guard++) {
            for (int thief = 0; thief < 4; thief++) {
                StringBuilder text = new StringBuilder(Towns.corners(10) + Towns.lanes("ba bc"));
                for (int k = 0; k < 3; k++) {
                    text.append("guard ").append("ghi".charAt(k)).append(k == guard ? " a;" : " d;");
                    text.append("beat ").append("ghi".charAt(k)).append(k == guard ? " a b c;" : " d d;");
                }
                for (int k = 0; k < 4; k++) {
                    text.append("thief ").append("stuv".charAt(k)).append(k == thief ? " c 1;" : " e 1;");
                }
                ThiefTakers x = Told.of(text + "law stir 0;");
                x.go(1);
                String was = Whole.IS.of(x);
                Told.due("at b", x.guard(guard, 0) * 10 + x.guard(guard, 1), 11);
                x.keep();
                x.go(1);
                Told.due("caught", x.thief(thief, 3) * 10 + x.guard(guard, 2), guard * 10 + 1);
                Told.due("on his way to a place behind", x.go(1) * 10 + x.guard(guard, 1), 30);
                x.back();
                Told.same("guard " + guard + ", thief " + thief, Whole.IS.of(x), was);
                Told.due("to be caught", x.caught(thief), 1);
                x.go(1);
                x.keep();
                x.go(2);
                x.back();
                Told.due("he is", x.caught(thief) * 1000 + x.thief(thief, 3) * 100 + x.guard(guard, 2) * 10 + x.guard(guard, 1),
                        guard * 100 + 12);
            }
        }
    }

    private static void promise47_back_factsStay() {
        ThiefTakers x = Told.of("corner a 0 9;corner b 0 9;thief t a 1;");
        x.see(1, 0, 0, true);
        x.keep();
        x.see(1, 0, 1, true);
        x.strike(0);
        x.go(3);
        x.back();
        Told.due("all three", x.count(10), 3);
        Told.due("known by all three", x.count(11), 3);
        Told.due("the second isn't so", x.bolds(0), 0);
    }

    private static void promise47_back_whoWasCaughtIsFreeAgain() {
        ThiefTakers x = Told.of("corner a 0 9;guard g a;thief t a 1;");
        x.keep();
        x.go(1);
        Told.due("caught", x.count(6) * 10 + x.guard(0, 2), 11);
        x.back();
        Told.due("free", x.count(6) * 10 + x.guard(0, 2), 0);
        Told.due("by none", x.thief(0, 3), -2);
        x.go(1);
        x.keep();
        x.back();
        Told.due("caught in the image", x.count(6), 1);
    }

    private static void promise48_count_what0To12() {
        new Alike(Towns::busy).takes("count", 0, 12, ThiefTakers::count, -1);
        new Alike(ThiefTakers::new).takes("count", 0, 12, ThiefTakers::count, -1);
    }

    private static void promise48_count_ofAFullTown() {
        ThiefTakers x = Told.of(Towns.FULL.replace("law dread light-far*3+loot/9;", ""));
        int[] due = {10, 20, 3, 4, 0, 0, 0, 900, 0, 0, 0, 0, 0};
        for (int what = 0; what < due.length; what++) {
            Told.due("count(" + what + ")", x.count(what), due[what]);
        }
        for (int k = 0; k < 20; k++) {
            x.bar(k);
        }
        x.bar(20);
        Told.due("all barred", x.count(9), 20);
        Told.due("all can be undone", x.count(12), 20);
        for (int k = 0; k < 25; k++) {
            x.see(1, 0, 0, true);
        }
        Told.due("all facts", x.count(10), 24);
        Told.due("known by all", x.count(11), 24);
    }

    private static void promise48_count_mostLootAndAllThatWasHad() {
        ThiefTakers x = Told.of(Towns.corners(10) + "thief s a 0;thief t b 0;thief u c 0;thief v d 0;law take 99;law stir 0;");
        for (int corner = 0; corner < 10; corner++) {
            for (int k = 0; k < 11; k++) {
                x.drop(corner, 999);
            }
        }
        Told.due("ten times 9999", x.count(7), 99990);
        x.go(100);
        Told.due("had by four in 100 hours", x.count(8), 4 * 9900);
        Told.due("left", x.count(7), 99990 - 4 * 9900);
        x.go(2);
        Told.due("99 and no more", x.count(8), 4 * 9999);
        Told.due("all of it", x.count(7), 6 * 9999);
    }

    private static void promise48_count_caughtOnesAndKnots() {
        ThiefTakers x = Told.of("corner a 0 0;guard g a;thief s a 0;thief t a 0;thief u a 0;thief v a 0;law take 1" + "+1".repeat(31)
                + ";law stir 1;");
        Told.due("64 knots", x.count(4), 64);
        x.go(1);
        Told.due("all caught", x.count(6), 4);
        Told.due("the hour", x.count(5), 1);
    }
}
