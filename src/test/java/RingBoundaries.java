/** Boundaries of the ring, its crossings and the plait: promises 7, 8, 11, 12, 22 and the second part of Terms. */
final class RingBoundaries {
    private static final int NONE = RibbonPole.NONE;

    private RingBoundaries() {
    }

    static void all() {
        places();
        dancers();
        touching();
        undoing();
        plaitFull();
        prices();
        ribbons();
        layers();
        order();
        plaitTold();
        refusedCrossings();
        takes();
    }

    private static void says(int promise, String words) {
        Sentence.says(promise, words);
    }

    private static void due(String call, long want, long got) {
        Sentence.due(call, want, got);
    }

    private static void due(String call, boolean want, boolean got) {
        Sentence.due(call, want, got);
    }

    private static void places() {
        says(8, "As many PLACES as DANCERS, in a ring, by numbers from 0; behind the last one is 0.");
        for (int m = 3; m <= 7; m++) {
            RibbonPole pole = Poles.ring(m, "");
            due("the last place of " + m, m - 1, pole.stands(m - 1));
            due("no place behind it", NONE, pole.stands(m));
            due("a crossing at the last", 0, pole.cross(m - 1, true));
            due("its letter", 2 * m - 2, pole.plait(0, 0));
            due("the last goes to 0", m - 1, pole.stands(0));
            due("the first goes to the last", 0, pole.stands(m - 1));
            due("the last goes over", m - 1, pole.plait(0, 1));
            due("the first goes under", 0, pole.plait(0, 2));
            due("all others stay", m - 2, pole.most(12));
        }
        says(8, "Each DANCER stands at the PLACE of his number at first.");
        for (int m = 3; m <= 7; m++) {
            RibbonPole pole = Poles.ring(m, "");
            for (int place = 0; place < m; place++) {
                due("stands(" + place + ")", place, pole.stands(place));
                due("dancer(" + place + ", 3)", place, pole.dancer(place, 3));
            }
        }
        says(8, "Who stands at a PLACE. NONE: no such PLACE.");
        RibbonPole pole = Poles.ring(3, "");
        due("stands(-1)", NONE, pole.stands(-1));
        due("stands(3)", NONE, pole.stands(3));
        due("stands of the lowest", NONE, pole.stands(Integer.MIN_VALUE));
        due("stands of the highest", NONE, pole.stands(Integer.MAX_VALUE));
        due("stands(0) without a green", NONE, new RibbonPole().stands(0));
    }

    private static void dancers() {
        says(7, "as now. NoSuchElementException: no such ones.");
        RibbonPole pole = Poles.green("d;d;dc7l9s9");
        due("dancer(2, 5) throws", false, Poles.throwsNoSuch(pole, 2, 5));
        for (int what : new int[] {-1, 6, Integer.MIN_VALUE, Integer.MAX_VALUE}) {
            due("dancer(0, " + what + ") throws", true, Poles.throwsNoSuch(pole, 0, what));
        }
        for (int dancer : new int[] {-1, 3, Integer.MIN_VALUE, Integer.MAX_VALUE}) {
            due("dancer(" + dancer + ", 0) throws", true, Poles.throwsNoSuch(pole, dancer, 0));
        }
        due("no green: it throws", true, Poles.throwsNoSuch(new RibbonPole(), 0, 0));
        pole.longer(2, 20);
        pole.cross(2, true);
        int[] want = {7, 29, 9, 0, 27, 1};
        for (int what = 0; what < 6; what++) {
            due("dancer(2, " + what + ")", want[what], pole.dancer(2, what));
        }
    }

    private static void touching() {
        says(12, "Two CROSSINGS TOUCH, if their PLACES are alike or beside one another.");
        for (int m = 3; m <= 7; m++) {
            for (int p = 0; p < m; p++) {
                for (int q = 0; q < m; q++) {
                    RibbonPole pole = Poles.ring(m, "");
                    pole.cross(p, true);
                    pole.cross(q, true);
                    int gap = Math.floorMod(q - p, m);
                    // What lies between hinders, if it touches; at the same place the latest itself is undone.
                    boolean hinders = gap == 1 || gap == m - 1;
                    due(p + " danced back behind " + q + " of " + m, hinders ? 0 : 1, pole.cross(p, false));
                }
            }
        }
    }

    private static void undoing() {
        says(12, "if there is one in the PLAIT at the same PLACE of the other sort behind which there is none in the PLAIT that TOUCHES it");
        RibbonPole pole = Poles.ring(5, "");
        due("the plait is empty", 0, pole.cross(1, false));
        due("of the same sort", 0, pole.cross(1, false));
        due("at another place", 0, pole.cross(3, true));
        due("of the other sort", 1, pole.cross(1, true));
        due("and the one ahead of it", 1, pole.cross(1, true));
        due("none is left there", 0, pole.cross(1, true));
        due("what touches comes behind", 0, pole.cross(0, true));
        due("so it undoes none", 0, pole.cross(1, false));
        due("but that one is undone", 1, pole.cross(1, true));
        due("what touched is undone", 1, pole.cross(0, false));
        due("and all is free again", 1, pole.cross(1, false));
        due("one is left", 1, pole.count(1));
        says(12, "both its DANCERS have back what it took of each ribbon");
        RibbonPole back = Poles.holding(Poles.green("dl9;dl9;dl9;dl9"), "y:n+4");
        due("it takes 4", 0, back.cross(0, true));
        due("it takes 5", 0, back.cross(2, true));
        back.law(NONE);
        due("it undoes", 1, back.cross(0, false));
        due("0 has all back", 9, back.dancer(0, 4));
        due("1 has all back", 9, back.dancer(1, 4));
        due("2 has what he had", 4, back.dancer(2, 4));
    }

    private static void plaitFull() {
        says(12, "The PLAIT (none at first; 40 CROSSINGS at most)");
        due("none at first", 0, Poles.green("d;d;d").count(1));
        RibbonPole pole = Poles.figures(Poles.holding(Poles.green(Poles.LONG), "y:1"), "w;3(o0;o2);2(9(o0))", "8(o2)");
        pole.dance(0);
        pole.dance(1);
        due("32", 32, pole.count(1));
        due("to 39", 7, pole.dance(Check.text(pole, 2, "7(o0)")));
        due("the fortieth", 0, pole.cross(0, true));
        due("40", 40, pole.count(1));
        due("one more", NONE, pole.cross(0, true));
        due("one more elsewhere", NONE, pole.cross(2, true));
        due("40 still", 40, pole.count(1));
        due("it undoes one though it is full", 1, pole.cross(2, false));
        due("there is room for one", 0, pole.cross(1, true));
        due("and for no other", NONE, pole.cross(1, true));
    }

    private static void prices() {
        says(22, "(all as ahead of it)");
        int[] took = {1, 2, 3};
        for (String law : new String[] {"y:n+1", "y:h", "y:b+1"}) {
            RibbonPole pole = Poles.holding(Poles.ring(3, ""), law);
            for (int i = 0; i < 3; i++) {
                due("takes by " + law, took[i], pole.takes(0, true));
                pole.cross(0, true);
                due("took by " + law, took[i], pole.plait(i, 3));
            }
        }
        says(22, "s how SURE who goes OVER is, u who goes UNDER");
        RibbonPole pole = Poles.holding(Poles.green("ds1;ds9;ds0;ds3"), "y:s-u");
        due("9 of 1 and 0", 9, pole.takes(1, true));
        due("below 1", 1, pole.takes(1, false));
        due("the last over the first", 2, pole.takes(3, true));
        due("the first over the last", 1, pole.takes(3, false));
        says(22, "b the BEAT modulo 100");
        RibbonPole late = Poles.late(Poles.holding(Poles.ring(3, ""), "y:b-91"), 99);
        due("at 99", 8, late.takes(0, true));
        late.beat();
        due("at 100", 1, late.takes(0, true));
        due("at 199", 8, Poles.late(late, 199).takes(0, true));
        late.beat();
        due("at 200", 1, late.takes(0, true));
        RibbonPole last = Poles.late(Poles.holding(Poles.ring(3, ""), "y:b=99?7;y:2"), 999);
        due("at 999", 7, last.takes(0, true));
    }

    private static void ribbons() {
        says(12, "it can't be, if one of the two ribbons has less LEFT, or there are 40.");
        for (int over = 4; over <= 6; over++) {
            for (int under = 4; under <= 6; under++) {
                RibbonPole pole = Poles.holding(Poles.green("dl" + over + ";dl" + under + ";d"), "y:5");
                int want = over >= 5 && under >= 5 ? 0 : NONE;
                due("cross of ribbons " + over + " and " + under, want, pole.cross(0, true));
                due("the other way", want == 0 ? 1 : NONE, pole.cross(0, false));
            }
        }
        RibbonPole pole = Poles.green("st3;dl6;dl9;dl9");
        pole.cross(0, true);
        due("up to the end of a ribbon", 0, pole.cross(0, true));
        due("nothing left", 0, pole.dancer(0, 4));
        due("not without any", NONE, pole.cross(0, true));
        due("but back it can be", 1, pole.cross(0, false));
        says(7, "(LEFT: LENGTH less what all CROSSINGS in the PLAIT took of it.)");
        RibbonPole left = Poles.green("st9;dl1;dl99;dl99");
        due("none took", 1, left.dancer(0, 4));
        for (int i = 0; i < 11; i++) {
            due("cross", 0, left.cross(1, true));
        }
        due("all was taken", 0, left.dancer(1, 4));
        due("the length is as it was", 99, left.dancer(1, 1));
        due("none took still", 1, left.dancer(0, 4));
    }

    private static void layers() {
        says(11, "1 more than the highest LAYER of those ahead of it that TOUCH it (none: 1)");
        for (int m = 3; m <= 7; m++) {
            for (int q = 0; q < m; q++) {
                RibbonPole pole = Poles.holding(Poles.ring(m, ""), "y:h");
                pole.cross(0, true);
                due("the first", 1, pole.plait(0, 4));
                boolean touches = q <= 1 || q == m - 1;
                due("h at " + q + " of " + m, touches ? 2 : 1, pole.takes(q, true));
                pole.cross(q, true);
                due("depth", touches ? 2 : 1, pole.most(4));
            }
        }
        RibbonPole pole = Poles.ring(5, "");
        pole.cross(0, true);
        pole.cross(0, true);
        pole.cross(2, true);
        pole.cross(1, true);
        due("the highest, not the latest", 3, pole.plait(3, 4));
        RibbonPole high = Poles.figures(Poles.holding(Poles.green(Poles.LONG), "y:1"), "5(8(o0))");
        due("forty at one place", 40, high.dance(0));
        due("the last layer", 40, high.plait(39, 4));
        due("the first layer", 1, high.plait(0, 4));
    }

    private static void order() {
        says(11, "(all that TOUCH it and came ahead of it are told) the one with the lowest LETTER is told next");
        RibbonPole pole = Poles.ring(7, "");
        int[] spots = {6, 0, 4, 2, 6, 3};
        for (int spot : spots) {
            pole.cross(spot, spot != 3);
        }
        // 0 waits for the first 12 round the ring's end, 7 for 8 and 4.
        int[] want = {4, 8, 7, 12, 0, 12};
        for (int i = 0; i < 6; i++) {
            due("plait(" + i + ", 0)", want[i], pole.plait(i, 0));
        }
        RibbonPole pair = Poles.ring(4, "");
        pair.cross(2, true);
        pair.cross(0, false);
        due("o and u: the lowest letter first", 1, pair.plait(0, 0));
        pair.cross(0, false);
        due("the second at 0 waits for the first alone", 1, pair.plait(1, 0));
        due("and 4 is the last", 4, pair.plait(2, 0));
    }

    private static void plaitTold() {
        says(11, "3 what it took of each ribbon, 4 its LAYER. NONE: no such ones.");
        RibbonPole pole = Poles.ring(3, "");
        for (int what = -1; what <= 5; what++) {
            due("of an empty plait", NONE, pole.plait(0, what));
        }
        pole.cross(2, false);
        int[] want = {5, 0, 2, 2, 1};
        for (int what = 0; what < 5; what++) {
            due("plait(0, " + what + ")", want[what], pole.plait(0, what));
            due("plait(1, " + what + ")", NONE, pole.plait(1, what));
            due("plait(-1, " + what + ")", NONE, pole.plait(-1, what));
        }
        due("plait(0, 5)", NONE, pole.plait(0, 5));
        due("plait(0, -1)", NONE, pole.plait(0, -1));
        due("i the lowest", NONE, pole.plait(Integer.MIN_VALUE, 0));
        due("i the highest", NONE, pole.plait(Integer.MAX_VALUE, 0));
        pole.cross(2, true);
        due("of a plait that is empty again", NONE, pole.plait(0, 0));
        RibbonPole full = Poles.full();
        due("the fortieth", 5, full.plait(39, 0));
        due("no forty-first", NONE, full.plait(40, 0));
    }

    private static void refusedCrossings() {
        says(12, "(over: o): whether it UNDID one (1, 0). NONE: no GREEN (STATUS 0)");
        RibbonPole pole = new RibbonPole();
        due("without a green", NONE, pole.cross(0, true));
        due("a place that never is there", NONE, pole.cross(-1, true));
        Sentence.due("status", "2 0 0 0 0", Poles.statusOf(pole));
        says(12, "no such PLACE (1), a ribbon too short (2)");
        pole = Poles.green("st2;dl1;d;d");
        for (int spot : new int[] {-1, 3, 7, Integer.MIN_VALUE, Integer.MAX_VALUE}) {
            due("cross(" + spot + ")", NONE, pole.cross(spot, true));
        }
        Sentence.due("status", "0 5 0 0 0", Poles.statusOf(pole));
        due("the one's ribbon", NONE, pole.cross(0, true));
        due("the other's ribbon", NONE, pole.cross(2, true));
        due("both are long enough", 0, pole.cross(1, true));
        Sentence.due("status", "0 5 2 0 0", Poles.statusOf(pole));
        says(12, "the PLAIT full (3), beyond 999 (4).");
        pole = Poles.full();
        due("full", NONE, pole.cross(0, true));
        Sentence.due("status", "0 0 0 1 0", Poles.statusOf(pole));
        due("it undoes", 1, pole.cross(0, false));
        Sentence.due("status", "0 0 0 1 0", Poles.statusOf(pole));
        pole = Poles.late(Poles.ring(3, ""), 998);
        due("the last beat", 0, pole.cross(0, true));
        due("999", 999, pole.count(6));
        due("beyond", NONE, pole.cross(0, true));
        due("beyond though it would undo", NONE, pole.cross(0, false));
        Sentence.due("status", "0 0 0 0 2", Poles.statusOf(pole));
        due("one crossing", 1, pole.count(1));
    }

    private static void takes() {
        says(22, "were it danced and UNDID none (whether it would or not, could or not). NONE: no such PLACE.");
        RibbonPole pole = Poles.holding(Poles.green("dl4;dl4;dl4"), "y:n+h+1");
        due("takes", 2, pole.takes(0, true));
        pole.cross(0, true);
        due("it would undo", 4, pole.takes(0, false));
        due("it can't be", 4, pole.takes(0, true));
        due("the last place", 4, pole.takes(2, true));
        due("takes(3)", NONE, pole.takes(3, true));
        due("takes(-1)", NONE, pole.takes(-1, true));
        due("takes of the highest", NONE, pole.takes(Integer.MAX_VALUE, false));
        due("takes of the lowest", NONE, pole.takes(Integer.MIN_VALUE, false));
        due("without a green", NONE, new RibbonPole().takes(0, true));
        RibbonPole full = Poles.full();
        full.law(NONE);
        due("of a full plait", 2, full.takes(0, true));
        RibbonPole late = Poles.late(Poles.ring(3, ""), 999);
        due("beyond the last beat", 2, late.takes(0, true));
    }
}
