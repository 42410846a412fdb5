/** Promises 21 to 32 at their edges: the chase, posts, sweeping, where one can be, rounds and walls. */
public final class ChaseBoundariesTest {
    private static final String RING = Towns.corners(4) + Towns.lanes("ab bc cd da");
    private static final String RING_OF_STEPS = Towns.corners(10) + Towns.steps("ab bc cd de ef fg gh hi ij ja");
    private static final String STAR = Towns.corners(10) + Towns.lanes("ab ac ad ae af ag ah ai aj");

    /** Petersen's graph: whoever stands next to two of its corners has a third way out, so two never do. */
    private static final String PETERSEN = Towns.corners(10) + Towns.lanes("ab bc cd de ea af bg ch di ej fh hj jg gi if");

    public static void main(String[] args) {
        Promises.run(ChaseBoundariesTest.class, 21, 32, args);
    }

    /** All the corners next to each other; 20 lanes do for six. */
    private static String allNext(int many) {
        StringBuilder pairs = new StringBuilder();
        for (char one = 'a'; one < 'a' + many; one++) {
            for (char other = (char) (one + 1); other < 'a' + many; other++) {
                pairs.append(pairs.length() == 0 ? "" : " ").append(one).append(other);
            }
        }
        return Towns.corners(many) + Towns.lanes(pairs.toString());
    }

    private static void promise21_chase_noSuchGuards() {
        new Alike(Towns::busy).takes("guards of two", 0, 3, (x, guards) -> x.chase(guards, 0), -1);
        new Alike(Towns::full).takes("guards of three", 0, 7, (x, guards) -> x.chase(guards, 0), -1);
        Alike noGuards = new Alike(() -> Told.of(Towns.path(3)));
        noGuards.takes("guards of none", 0, 0, (x, guards) -> x.chase(guards, 0), -1);
    }

    private static void promise21_chase_noSuchCorner() {
        new Alike(Towns::busy).takes("corner", 0, 3, (x, corner) -> x.chase(1, corner), -1);
        new Alike(Towns::busy).takes("corner, no guards", 0, 3, (x, corner) -> x.chase(0, corner), -1);
        new Alike(Towns::full).takes("corner", 0, 9, (x, corner) -> x.chase(7, corner), -1);
        new Alike(ThiefTakers::new).leaves("in no town", x -> x.chase(0, 0), -1);
    }

    private static void promise21_chase_0IfHeIsTaken() {
        ThiefTakers x = Told.of(Towns.path(3) + "guard g a;guard h c;");
        Told.due("by the first", x.chase(1, 0), 0);
        Told.due("by the second", x.chase(2, 2), 0);
        Told.due("by one of both", x.chase(3, 2), 0);
        Told.due("the other guard isn't there", x.chase(1, 2), 2);
    }

    private static void promise21_chase_neverByNone() {
        ThiefTakers x = Told.of("corner a 0 0;guard g a;");
        Told.due("none, though one is at his corner", x.chase(0, 0), -2);
        Told.due("one", x.chase(1, 0), 0);
        Told.due("a town without guards", Told.of(Towns.path(2)).chase(0, 1), -2);
    }

    private static void promise21_chase_never() {
        ThiefTakers x = Told.of(RING + "guard g a;guard h a;");
        Told.due("one on a ring", x.chase(1, 2), -2);
        Told.due("two on a ring", x.chase(3, 2), 2);
        x.bar(3);
        Told.due("one when the ring is cut", x.chase(1, 2), 3);
        Told.due("one on a ring of steps", Told.of(RING_OF_STEPS + "guard g a;").chase(1, 9), -2);
        Told.due("where no lane leads", Told.of(Towns.corners(2) + "guard g a;").chase(1, 1), -2);
    }

    private static void promise21_chase_roundsInARow() {
        // He stays at the end of the row, or goes to meet whom he can't escape: one round a lane.
        for (int many = 2; many <= 10; many++) {
            ThiefTakers x = Told.of(Towns.path(many) + "guard g a;");
            for (int corner = 0; corner < many; corner++) {
                int due = corner == 0 ? 0 : corner == 1 ? 1 : many - 1;
                Told.due(many + " in a row, from " + corner, x.chase(1, corner), due);
            }
        }
    }

    private static void promise21_chase_nextToHimIsOneRound() {
        ThiefTakers x = Told.of(Towns.corners(3) + "steps a b;lane b c;guard g a;guard h c;");
        Told.due("along steps", x.chase(1, 1), 1);
        Told.due("not against them", x.chase(2, 0), -2);
        Told.due("three of three", Told.of(STAR + "guard g b;guard h c;guard i d;").chase(7, 0), 1);
    }

    private static void promise21_chase_byThreeWhereTwoDontDo() {
        ThiefTakers x = Told.of(PETERSEN + "guard g a;guard h a;guard i a;");
        for (int corner = 0; corner < 10; corner++) {
            boolean next = corner == 1 || corner == 4 || corner == 5;
            int one = corner == 0 ? 0 : next ? 1 : -2;
            for (int guards : new int[] {1, 2, 4, 3, 5, 6}) {
                Told.due("corner " + corner + " by " + guards, x.chase(guards, corner), one);
            }
            // The three go to the three corners next to a, from where each of the six others is seen by one.
            Told.due("corner " + corner + " by all", x.chase(7, corner), corner == 0 ? 0 : next ? 1 : 2);
        }
    }

    private static void promise21_chase_byTheLanesThatAreNow() {
        ThiefTakers x = Told.of(RING + "guard g a;guard h c;guard i a;");
        Told.due("one on a ring", x.chase(1, 2), -2);
        x.bar(2);
        Told.due("the ring is cut", x.chase(1, 2), 2);
        Told.due("his first go", x.firstGo(1, 2, 0), 1);
        x.bar(0);
        Told.due("cut from a to b, too", x.chase(1, 2), -2);
        Told.due("he flees to b", x.flee(1, 2), 1);
        x.undo();
        Told.due("undone", x.chase(1, 2), 2);
        x.undo();
        Told.due("undone", x.chase(1, 2), -2);
        x.bar(1);
        x.keep();
        x.bar(1);
        Told.due("a ring again", x.chase(1, 2), -2);
        x.back();
        Told.due("back where it was cut", x.chase(1, 2), 2);
        x.text(0);
        Told.tell(x, Towns.corners(4) + Towns.lanes("ab bc cd da") + "guard g a;");
        Told.due("another text", x.chase(1, 2), -2);
        x.text(0);
        Told.tell(x, Towns.corners(3) + Towns.lanes("ab bc") + "guard g a;");
        Told.due("one of less corners", x.chase(1, 2), 2);
        x.text(0);
        Told.tell(x, Towns.path(10) + "guard g a;");
        Told.due("one of more corners", x.chase(1, 2), 9);
    }

    private static void promise21_chase_ofTheTextThatIsNow() {
        ThiefTakers x = Told.of(Towns.corners(3) + "guard g a;");
        Told.due("three alone", x.takers(), 3);
        Told.due("never", x.chase(1, 1), -2);
        x.text(0);
        Told.tell(x, Towns.corners(4) + "guard g a;");
        Told.due("four alone", x.takers(), -2);
        Told.due("never", x.chase(1, 3), -2);
        x.text(0);
        Told.tell(x, Towns.corners(2) + "guard g a;");
        Told.due("two alone", x.takers(), 2);
        Told.due("he is", x.chase(1, 0), 0);
        x = Told.of(Towns.corners(3) + "guard g c;");
        Told.due("never from c to a", x.chase(1, 0), -2);
        x.text(0);
        Told.tell(x, Towns.corners(4) + "guard g d;");
        Told.due("never from d to a", x.chase(1, 0), -2);
        x = Told.of(RING_OF_STEPS + "guard g a;");
        Told.due("a ring of steps", x.chase(1, 5), -2);
        Told.due("takers of it", x.takers(), 2);
        x.text(0);
        Told.tell(x, STAR + "guard g a;");
        Told.due("a star", x.chase(1, 5), 1);
        Told.due("takers of it", x.takers(), 1);
        x.text(0);
        Told.tell(x, Towns.path(10) + "guard g a;");
        Told.due("a path", x.chase(1, 5), 9);
        x.text(0);
        Told.tell(x, Towns.corners(10) + Towns.lanes("ad be cf dg eh fi gj ah bi cj") + "guard g a;");
        Told.due("a ring the other way round", x.chase(1, 5), -2);
    }

    private static void promise21_chase_askedAllStays() {
        Alike full = new Alike(Towns::full);
        full.asked("chase", x -> x.chase(7, 9));
        full.asked("firstGo", x -> x.firstGo(7, 9, 2));
        full.asked("flee", x -> x.flee(7, 9));
        full.asked("takers", ThiefTakers::takers);
        full.asked("post", x -> x.post(0));
    }

    private static void promise22_firstGo_noSuchOnes() {
        Alike busy = new Alike(Towns::busy);
        busy.takes("guards", 0, 3, (x, guards) -> x.firstGo(guards, 0, 0), -1);
        busy.takes("corner", 0, 3, (x, corner) -> x.firstGo(1, corner, 0), -1);
        busy.takes("guard", 0, 1, (x, guard) -> x.firstGo(3, 0, guard), -1);
        new Alike(Towns::full).takes("guard", 0, 2, (x, guard) -> x.firstGo(7, 0, guard), -1);
        new Alike(ThiefTakers::new).leaves("in no town", x -> x.firstGo(0, 0, 0), -1);
        new Alike(() -> Told.of(Towns.path(2))).leaves("of no guards", x -> x.firstGo(0, 0, 0), -1);
    }

    private static void promise22_firstGo_neverTakenOrTakenAlready() {
        ThiefTakers x = Told.of(RING + "guard g a;guard h b;");
        Told.due("never", x.firstGo(1, 2, 0), -2);
        Told.due("taken already", x.firstGo(1, 0, 0), -2);
        Told.due("taken already by another one", x.firstGo(3, 0, 1), -2);
        Told.due("never by none", x.firstGo(0, 2, 0), -2);
        Told.due("taken in one round", x.firstGo(1, 1, 0), 1);
    }

    private static void promise22_firstGo_notOneOfThem() {
        ThiefTakers x = Told.of(RING + "guard g a;guard h a;guard i a;");
        for (int guards = 1; guards <= 7; guards++) {
            for (int guard = 0; guard < 3; guard++) {
                boolean one = (guards >> guard & 1) == 1;
                Told.due("guard " + guard + " of " + guards, x.firstGo(guards, 1, guard) == -2, !one);
            }
        }
    }

    private static void promise22_firstGo_theFirstRowByGuards() {
        ThiefTakers x = Told.of(RING + "guard g c;guard h c;");
        Told.due("the first goes to b", x.firstGo(3, 0, 0), 1);
        Told.due("so the second may not, or d would be safe: he stays", x.firstGo(3, 0, 1), 2);
        x = Told.of(Towns.path(3) + "guard g b;");
        Told.due("he stays only where that does", x.firstGo(1, 0, 0), 0);
        x = Told.of(Towns.path(3) + "guard g b;guard h b;");
        Told.due("the first goes to a, the second takes", x.firstGo(3, 2, 0) * 10 + x.firstGo(3, 2, 1), 2);
    }

    private static void promise22_firstGo_staysOrGoesToACornerNextToHis() {
        // To who is at d it is alike whether e or b is taken, whether one stands at g or a; only e is next to f, none to g.
        String town = Towns.corners(7) + Towns.lanes("bc bd de ef");
        ThiefTakers x = Told.of(town + "guard g f;guard h g;");
        Told.due("alone, from f to e", x.firstGo(1, 3, 0), 4);
        Told.due("from f to e", x.firstGo(3, 3, 0), 4);
        Told.due("stays at g", x.firstGo(3, 3, 1), 6);
        x = Told.of(town + "guard g g;guard h f;");
        Told.due("stays at g", x.firstGo(3, 3, 0), 6);
        Told.due("from f to e", x.firstGo(3, 3, 1), 4);
        x = Told.of(town + "guard g g;guard h f;guard i g;");
        Told.due("stays at g, of three", x.firstGo(7, 3, 0), 6);
        Told.due("from f to e, of three", x.firstGo(7, 3, 1), 4);
        Told.due("stays at g, too", x.firstGo(7, 3, 2), 6);
    }

    private static void promise22_firstGo_notAgainstSteps() {
        // From a he would take him as soon as from e, but steps lead from a to f alone.
        ThiefTakers x = Told.of(Towns.corners(6) + "lane c d;steps e d;steps a d;steps f e;steps a f;guard g f;");
        Told.due("in three", x.chase(1, 3), 3);
        Told.due("to e", x.firstGo(1, 3, 0), 4);
    }

    private static void promise22_firstGo_ofThreeTheFirstRow() {
        ThiefTakers x = Told.of(PETERSEN + "guard g a;guard h a;guard i a;");
        for (int corner : new int[] {2, 3, 6, 7, 8, 9}) {
            Told.due("g to b", x.firstGo(7, corner, 0), 1);
            Told.due("h to e", x.firstGo(7, corner, 1), 4);
            Told.due("i to f", x.firstGo(7, corner, 2), 5);
        }
        Told.due("g stays: one of the others takes him at b", x.firstGo(7, 1, 0), 0);
        Told.due("h stays", x.firstGo(7, 1, 1), 0);
        Told.due("i goes to b", x.firstGo(7, 1, 2), 1);
    }

    private static void promise23_flee_noSuchOnes() {
        Alike busy = new Alike(Towns::busy);
        busy.takes("guards", 0, 3, (x, guards) -> x.flee(guards, 0), -1);
        busy.takes("corner", 0, 3, (x, corner) -> x.flee(1, corner), -1);
        busy.takes("corner, no guards", 0, 3, (x, corner) -> x.flee(0, corner), -1);
        new Alike(Towns::full).takes("guards", 0, 7, (x, guards) -> x.flee(guards, 0), -1);
        new Alike(ThiefTakers::new).leaves("in no town", x -> x.flee(0, 0), -1);
    }

    private static void promise23_flee_takenAlready() {
        ThiefTakers x = Told.of(Towns.path(3) + "guard g a;guard h c;");
        Told.due("by the first", x.flee(1, 0), -2);
        Told.due("by one of both", x.flee(3, 2), -2);
        Told.due("not by one who isn't of them", x.flee(1, 2), 2);
        Told.due("not by none", x.flee(0, 0), 0);
    }

    private static void promise23_flee_neverIsLatestAndTheFirstOfSeveral() {
        ThiefTakers x = Told.of(RING + "guard g a;");
        Told.due("from b: a is taken, b in one round, c never", x.flee(1, 1), 2);
        Told.due("from c: only c is never", x.flee(1, 2), 2);
        x = Told.of(Towns.corners(6) + Towns.lanes("ab bc cd de ef fa") + "guard g a;");
        Told.due("from d: c, d and e are", x.flee(1, 3), 2);
        Told.due("from c: c and d are, b isn't", x.flee(1, 2), 2);
        Told.due("none chases: the first next to d", x.flee(0, 3), 2);
        Told.due("none chases: the first is his own", x.flee(0, 0), 0);
        Told.due("none chases: the first next to b", x.flee(0, 1), 0);
        Told.due("alone", Told.of("corner a 0 0;").flee(0, 0), 0);
    }

    private static void promise23_flee_whereHeCantEscapeToTheLatest() {
        ThiefTakers x = Told.of(Towns.path(2) + "guard g a;");
        Told.due("to a he is taken at once, at b in a round", x.flee(1, 1), 1);
        x = Told.of(Towns.corners(1) + "corner b 0 0;corner c 0 0;" + Towns.lanes("ab ac") + "guard g a;");
        Told.due("stays at c", x.flee(1, 2), 2);
    }

    private static void promise23_flee_whomNoneChasesGoesToTheFirst() {
        ThiefTakers x = Told.of(Towns.corners(6) + "lane b c;steps c d;lane f d;steps a f;guard g a;");
        int[] due = {0, 1, 1, 3, 4, 3};
        for (int corner = 0; corner < 6; corner++) {
            Told.due("from " + corner, x.flee(0, corner), due[corner]);
        }
    }

    private static void promise23_flee_toTheFirstAndTheLastCorner() {
        ThiefTakers x = Told.of(Towns.path(10) + "guard g e;guard h j;guard i a;");
        Told.due("from b: a is as late as b", x.flee(1, 1), 0);
        Told.due("from a", x.flee(1, 0), 0);
        Told.due("from f", x.flee(1, 5), 6);
        Told.due("from i: h is as late as i and j", x.flee(1, 8), 7);
        x = Told.of("corner a 0 0;corner b 0 0;corner c 0 0;" + Towns.lanes("ba bc") + "guard g c;");
        Told.due("only a is left", x.flee(1, 1), 0);
        x = Told.of(Towns.path(10) + "guard g h;");
        Told.due("only j is left", x.flee(1, 8), 9);
    }

    private static void promise24_takers_0WithoutCorners() {
        new Alike(ThiefTakers::new).leaves("no corners", ThiefTakers::takers, 0);
        Told.due("one corner", Told.of(Towns.corners(1)).takers(), 1);
    }

    private static void promise24_takers_1To3OrNot() {
        for (int many = 1; many <= 10; many++) {
            Told.due("alone, " + many, Told.of(Towns.corners(many)).takers(), many <= 3 ? many : -2);
            Told.due("in a row, " + many, Told.of(Towns.path(many)).takers(), 1);
        }
        ThiefTakers x = Told.of(RING);
        Told.due("a ring", x.takers(), 2);
        x.bar(0);
        Told.due("cut", x.takers(), 1);
        x.bar(2);
        Told.due("in two", x.takers(), 2);
        x.bar(1);
        Told.due("in three", x.takers(), 3);
        x.bar(3);
        Told.due("in four", x.takers(), -2);
        new Alike(Towns::busy).leaves("real guards don't matter", ThiefTakers::takers, 1);
    }

    private static void promise24_takers_threeWhereAllAreJoined() {
        ThiefTakers x = Told.of(PETERSEN);
        Told.due("Petersen's graph", x.takers(), 3);
        Told.due("all at a", x.post(0) * 100 + x.post(1) * 10 + x.post(2), 0);
        Told.due("no fourth", x.post(3), -2);
        x.bar(0);
        Told.due("less a lane", x.takers(), 2);
    }

    private static void promise25_post_kFrom0On() {
        Alike busy = new Alike(Towns::busy);
        for (int k : new int[] {-1, -2, -32, Integer.MIN_VALUE}) {
            busy.leaves("post(" + k + ")", x -> x.post(k), -1);
        }
        for (int k : new int[] {1, 2, 3, 31, 32, Integer.MAX_VALUE}) {
            busy.leaves("post(" + k + ") of 1", x -> x.post(k), -2);
        }
        Told.due("post(0)", Towns.busy().post(0), 0);
    }

    private static void promise25_post_noSoMany() {
        for (int many = 1; many <= 4; many++) {
            ThiefTakers x = Told.of(Towns.corners(many));
            for (int k = 0; k <= 4; k++) {
                Told.due("post(" + k + ") of " + many, x.post(k), k < many && many <= 3 ? k : -2);
            }
            Told.due("post(-1) of " + many, x.post(-1), -1);
        }
        Told.due("no corners", new ThiefTakers().post(0), -2);
        Told.due("no corners, k -1", new ThiefTakers().post(-1), -1);
    }

    private static void promise25_post_theFirstRowNoneLessThanTheOneAhead() {
        ThiefTakers x = Told.of(RING);
        Told.due("both at a", x.post(0) * 10 + x.post(1), 0);
        x = Told.of(Towns.corners(4) + "steps d c;steps d b;steps d a;");
        Told.due("d, from where all can be reached but not all at once", x.takers(), 1);
        Told.due("d", x.post(0), 3);
        x = Told.of(Towns.corners(5) + "steps e d;steps c b;steps c a;");
        Told.due("c and e", x.takers() * 100 + x.post(0) * 10 + x.post(1), 224);
    }

    private static void promise26_sweep_n1To10() {
        new Alike(Towns::busy).takes("sweep", 1, 10, ThiefTakers::sweep, -1);
        Alike none = new Alike(ThiefTakers::new);
        for (int n : Edges.beyond(1, 10)) {
            none.leaves("no corners, n " + n, x -> x.sweep(n), -1);
        }
        for (int n : Edges.within(1, 10)) {
            none.leaves("no corners, n " + n, x -> x.sweep(n), 0);
        }
    }

    private static void promise26_sweep_asManyAsCornersIsOneNight() {
        for (int many = 1; many <= 10; many++) {
            ThiefTakers x = Told.of(Towns.path(many));
            Told.due("all of " + many, x.sweep(many), 1);
            if (many > 1) {
                Told.due("all but one of " + many, x.sweep(many - 1) > 1, true);
            }
            if (many < 10) {
                Told.due("one more than " + many, x.sweep(many + 1), 1);
            }
        }
    }

    private static void promise26_sweep_neverForSure() {
        for (int many = 3; many <= 6; many++) {
            ThiefTakers x = Told.of(allNext(many));
            Told.due("all next to each other, one too few of " + many, x.sweep(many - 2), -2);
            Told.due("just enough of " + many, x.sweep(many - 1), 2);
        }
        Told.due("ten in a ring of steps", Told.of(RING_OF_STEPS).sweep(1), 10);
    }

    private static void promise26_sweep_whoHasNoneNextStays() {
        for (int many = 1; many <= 10; many++) {
            Told.due("alone, " + many, Told.of(Towns.corners(many)).sweep(1), many);
            Told.due("alone by three, " + many, Told.of(Towns.corners(many)).sweep(3), (many + 2) / 3);
        }
        ThiefTakers x = Told.of(Towns.path(2));
        Told.due("he can't stay", x.sweep(1), 2);
        Told.due("so the same corner again", x.look(1), 1);
        x = Told.of(Towns.corners(3) + "steps a c;steps b c;");
        Told.due("all are at c by the second night", x.sweep(1), 2);
    }

    private static void promise27_look_n1To10() {
        new Alike(Towns::busy).takes("look", 1, 10, ThiefTakers::look, -1);
        Alike none = new Alike(ThiefTakers::new);
        for (int n : Edges.beyond(1, 10)) {
            none.leaves("no corners, n " + n, x -> x.look(n), -1);
        }
        for (int n : Edges.within(1, 10)) {
            none.leaves("no corners, n " + n, x -> x.look(n), 0);
        }
    }

    private static void promise27_look_neverForSure() {
        ThiefTakers x = Told.of(allNext(4));
        Told.due("by two", x.look(2), -2);
        Told.due("by three", x.look(3), 7);
        Told.due("by four", x.look(4), 15);
    }

    private static void promise27_look_theLeastBits() {
        for (int many = 1; many <= 10; many++) {
            ThiefTakers x = Told.of(Towns.corners(many));
            Told.due("alone: the first of " + many, x.look(1), 1);
            Told.due("all of " + many, x.look(many), (1 << many) - 1);
            Told.due("all of " + many + " by ten", x.look(10), (1 << many) - 1);
        }
        Told.due("alone by two: the first night may find one", Told.of(Towns.corners(3)).look(2), 1);
        Told.due("nowhere, if he comes by himself", Told.of(Towns.corners(2) + "steps a b;").look(1), 0);
    }

    private static void promise27_look_nAtMost() {
        // To look into a and b would do as well, and these are less bits than c, but they are two.
        ThiefTakers x = Told.of(Towns.corners(3) + Towns.steps("ab ca"));
        Told.due("two nights", x.sweep(1), 2);
        Told.due("c", x.look(1), 4);
        Told.due("by two: nowhere, then a and b", x.look(2), 0);
        for (int many = 2; many <= 10; many++) {
            x = Told.of(Towns.path(many));
            for (int n = 1; n <= 10; n++) {
                Told.due(n + " at most on a path of " + many, Integer.bitCount(x.look(n)) <= n, true);
            }
        }
    }

    private static void promise28_dark_1To10() {
        new Alike(ThiefTakers::new).leaves("no corners", ThiefTakers::dark, 0);
        for (int many = 1; many <= 10; many++) {
            Told.due("alone, " + many, Told.of(Towns.corners(many)).dark(), 1);
            Told.due("in a row, " + many, Told.of(Towns.path(many)).dark(), 1);
        }
        for (int many = 2; many <= 6; many++) {
            Told.due("all next to each other, " + many, Told.of(allNext(many)).dark(), many - 1);
        }
        new Alike(Towns::busy).leaves("dark", ThiefTakers::dark, 1);
    }

    private static void promise29_could_noSuchThief() {
        new Alike(Towns::busy).takes("thief", 0, 2, (x, thief) -> x.could(thief, 1), -1);
        new Alike(Towns::full).takes("thief", 0, 3, (x, thief) -> x.could(thief, 0), -1);
        new Alike(ThiefTakers::new).leaves("in no town", x -> x.could(0, 0), -1);
    }

    private static void promise29_could_0To60Hours() {
        new Alike(Towns::busy).takes("n", 0, 60, (x, n) -> x.could(0, n), -1);
        new Alike(Towns::busy).takes("n of one caught", 0, 60, (x, n) -> x.could(1, n), -1);
        ThiefTakers x = Told.of(Towns.path(10) + "thief t a 0;");
        for (int n = 0; n <= 10; n++) {
            Told.due("one lane further in hour " + n, x.could(0, n), (1 << Math.min(n + 1, 10)) - 1);
        }
        Told.due("hour 60", x.could(0, 60), 1023);
    }

    private static void promise29_could_0OfOneCaught() {
        ThiefTakers x = Told.of(Towns.path(3) + "guard g a;thief t a 0;law stir 0;");
        Told.due("n 0: where he is, be a guard there", x.could(0, 0), 1);
        Told.due("behind an hour", x.could(0, 1), 2);
        x.go(1);
        Told.due("caught, n 0", x.could(0, 0), 0);
        Told.due("caught, n 60", x.could(0, 60), 0);
    }

    private static void promise29_could_nowhereWhereGuardsAre() {
        ThiefTakers x = Told.of(Towns.path(2) + "guard g a;guard h b;thief t a 0;");
        Told.due("where he is", x.could(0, 0), 1);
        Told.due("no corner is left", x.could(0, 1), 0);
        Told.due("none comes again", x.could(0, 60), 0);
        x = Told.of(Towns.path(3) + "guard g a;beat g b;thief t b 0;grip 0;");
        Told.due("guards go first: from b to a or c", x.could(0, 1), 5);
    }

    private static void promise30_unseen_noSuchCorner() {
        new Alike(Towns::busy).takes("unseen", 0, 3, ThiefTakers::unseen, -1);
        new Alike(Towns::full).takes("unseen", 0, 9, ThiefTakers::unseen, -1);
        new Alike(ThiefTakers::new).leaves("in no town", x -> x.unseen(0), -1);
    }

    private static void promise30_unseen_60AtMost() {
        Told.due("no guards", Told.of(Towns.path(3)).unseen(0), 60);
        ThiefTakers x = Told.of(Towns.path(4) + "guard g a;");
        int[] due = {0, 0, 60, 60};
        for (int corner = 0; corner < 4; corner++) {
            Told.due("far " + corner, x.unseen(corner), due[corner]);
        }
        x = Told.of(Towns.path(5) + "guard g a;beat g e;");
        Told.due("seen in the first hour", x.unseen(0), 59);
        x = Told.of(Towns.path(5) + "guard g b;beat g e;");
        Told.due("not in the first hour, though now", x.unseen(0), 60);
        x = Told.of(Towns.corners(2) + "steps a b;guard g b;");
        Told.due("from b one sees b", x.unseen(1), 0);
        Told.due("but not a", x.unseen(0), 60);
    }

    private static void promise30_unseen_theLongestRunning() {
        // He walks from a to f and back: at a and b he sees a, which is 2 hours of each 10 at the ends' turn.
        ThiefTakers x = Told.of(Towns.path(6) + "guard g a;beat g a f;");
        Told.due("from c to f and back to c", x.unseen(0), 7);
        Told.due("at f", x.unseen(5), 7);
        x = Told.of(Towns.path(6) + "guard g a;beat g a f;guard h f;beat h f a;");
        Told.due("two who cross", x.unseen(0), 2);
    }

    private static void promise31_round_noSuchCorner() {
        new Alike(() -> Told.of(Towns.path(4))).takes("round", 0, 3, ThiefTakers::round, -1);
        new Alike(() -> Told.of(STAR)).takes("round", 0, 9, ThiefTakers::round, -1);
        new Alike(ThiefTakers::new).leaves("in no town", x -> x.round(0), -1);
    }

    private static void promise31_round_howFewLanes() {
        Told.due("one corner", Told.of(Towns.corners(1)).round(0), 0);
        for (int many = 2; many <= 10; many++) {
            ThiefTakers x = Told.of(Towns.path(many));
            Told.due("from the end of " + many, x.round(0), many - 1);
            Told.due("from the second of " + many, x.round(1), many == 2 ? 1 : many);
        }
        Told.due("a star", Told.of(STAR).round(0), 17);
        Told.due("a ring of steps", Told.of(RING_OF_STEPS).round(4), 9);
        // From a by one of b, c, d, e to f, and round by g, h, i, j to a: seven lanes for one of the four.
        ThiefTakers x = Told.of(Towns.corners(10) + Towns.steps("ab ac ad ae bf cf df ef fg gh hi ij ja"));
        Told.due("three times round and one lane", x.round(0), 3 * 7 + 1);
        Told.due("from f first to a", x.round(5), 5 + 3 * 7 + 1);
    }

    private static void promise31_round_thereIsNone() {
        ThiefTakers x = Told.of(Towns.path(3));
        Told.due("all are reached", x.round(0), 2);
        x.bar(1);
        Told.due("c isn't", x.round(0), -2);
        Told.due("from c nothing is", x.round(2), -2);
        x = Told.of(Towns.corners(3) + "steps a b;steps a c;");
        Told.due("either, not both", x.round(0), -2);
        new Alike(Towns::busy).leaves("round", y -> y.round(0), 4);
    }

    private static void promise32_wall_noSuchOnesOrAlike() {
        Alike busy = new Alike(Towns::busy);
        for (int corner : Edges.beyond(0, 3)) {
            busy.leaves("from " + corner, x -> x.wall(corner, 0), -1);
            busy.leaves("to " + corner, x -> x.wall(0, corner), -1);
            busy.leaves("from and to " + corner, x -> x.wall(corner, corner), -1);
        }
        for (int corner = 0; corner < 4; corner++) {
            int alike = corner;
            busy.leaves("alike " + corner, x -> x.wall(alike, alike), -1);
        }
        Alike full = new Alike(Towns::full);
        full.leaves("from an eleventh", x -> x.wall(10, 0), -1);
        full.leaves("to an eleventh", x -> x.wall(0, 10), -1);
        Told.due("the last two", Told.of(Towns.FULL).wall(8, 9), 4);
        new Alike(ThiefTakers::new).leaves("in no town", x -> x.wall(0, 1), -1);
    }

    private static void promise32_wall_0WhereNoneLeads() {
        ThiefTakers x = Told.of(Towns.path(2) + "corner c 0 0;steps b c;");
        Told.due("one", x.wall(0, 2), 1);
        Told.due("none back", x.wall(2, 0), 0);
        x.bar(0);
        Told.due("those barred aren't counted", x.wall(0, 2), 0);
    }

    private static void promise32_wall_onlyTheThinnestPlaceCounts() {
        ThiefTakers x = Told.of(Towns.corners(7) + Towns.lanes("ab ac bc bd cd de ef eg fg"));
        Told.due("between d and e", x.wall(0, 6), 1);
        Told.due("and back", x.wall(6, 0), 1);
        Told.due("ahead of it", x.wall(0, 3), 2);
        Told.due("behind it", x.wall(4, 6), 2);
        Told.due("among three", x.wall(1, 2), 3);
        x = Told.of(Towns.corners(4) + "steps a b;steps b a;steps b c;steps a c;steps c d;steps d c;steps d a;");
        Told.due("one to d", x.wall(0, 3), 1);
        Told.due("one back, by no way through c", x.wall(3, 0), 1);
        Told.due("to c", x.wall(0, 2), 2);
    }

    private static void promise32_wall_asManyAsThereMayBe() {
        // All twenty lanes lead from a to j, by ways of two lanes and by those straight on.
        ThiefTakers x = Told.of(Towns.corners(10) + Towns.lanes("aj ab ac ad ae af ag ah ai bj cj dj ej fj gj hj ij")
                + "steps a j;steps j a;");
        Told.due("eight by the others, one lane, steps there", x.wall(0, 9), 10);
        Told.due("and back", x.wall(9, 0), 10);
        for (int bars = 1; bars <= 10; bars++) {
            x.bar(bars <= 9 ? bars - 1 : 17);
            Told.due("with " + bars + " barred", x.wall(0, 9), 10 - bars);
        }
    }
}
