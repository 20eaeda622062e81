/** Boundaries of the questions: promises 23 to 39 and 42, and the third part of Terms. */
final class QuestionBoundaries {
    private static final int NONE = RibbonPole.NONE;
    private static final int HIDDEN = RibbonPole.HIDDEN;
    private static final int ALL_PARTS = 1000000000;
    private static final int[] NEVER = {-1, Integer.MIN_VALUE, Integer.MAX_VALUE};

    private QuestionBoundaries() {
    }

    static void all() {
        bound();
        letOut();
        endless();
        behind();
        rounds();
        knotAndSame();
        nearest();
        times();
        timesLate();
        seen();
        fits();
        ask();
        stripe();
        game();
        rests();
        oddsRefused();
        oddsOfBounds();
        oddsCut();
        shares();
        mostOfSeveral();
        mostOfNone();
        mostOfFull();
        mostRefused();
        counts();
    }

    private static void says(int promise, String words) {
        Sentence.says(promise, words);
    }

    private static void due(String call, long want, long got) {
        Sentence.due(call, want, got);
    }

    // ---- 23, 24

    private static void bound() {
        says(23, "BOUND. HIDDEN: no such DANCERS, alike.");
        RibbonPole pole = Poles.ring(4, "");
        due("none", 0, pole.bound(0, 3));
        pole.cross(3, true);
        due("the last over the first", 1, pole.bound(3, 0));
        due("the first under the last", -1, pole.bound(0, 3));
        pole.cross(0, true);
        due("3 over 1 is not of both", 1, pole.bound(3, 0));
        due("3 over 1", 1, pole.bound(3, 1));
        due("0 under 3 is not of both", 0, pole.bound(0, 1));
        due("alike", HIDDEN, pole.bound(3, 3));
        due("(0, 4)", HIDDEN, pole.bound(0, 4));
        due("(4, 0)", HIDDEN, pole.bound(4, 0));
        for (int never : NEVER) {
            due("(0, " + never + ")", HIDDEN, pole.bound(0, never));
            due("(" + never + ", 0)", HIDDEN, pole.bound(never, 0));
            due("alike, but not there", HIDDEN, pole.bound(never, never));
        }
        due("without a green", HIDDEN, new RibbonPole().bound(0, 1));
    }

    private static void letOut() {
        says(24, "how many CROSSINGS would have to be UNDONE at the least so that none of his is in the PLAIT");
        RibbonPole pole = Poles.ring(7, "");
        due("of an empty plait", 0, pole.letOut(0));
        for (int spot : new int[] {6, 0, 1, 2}) {
            pole.cross(spot, true);
        }
        // 6 goes on at each crossing; the others have one each, all behind it touch one another.
        due("his own is the first of all", 4, pole.letOut(0));
        due("his own is the second", 3, pole.letOut(1));
        due("his own is the last of all", 1, pole.letOut(3));
        due("all are his own", 4, pole.letOut(6));
        due("he has none", 0, pole.letOut(4));
        due("half of a full plait", 20, Poles.full().letOut(0));
        RibbonPole round = Poles.ring(4, "");
        round.cross(0, true);
        round.cross(2, true);
        due("what lies beside does not touch", 1, round.letOut(0));
        round.cross(3, true);
        due("round the ring's end it touches", 2, round.letOut(1));
        says(24, "LET OUT. NONE: no such DANCER.");
        due("letOut(7)", NONE, pole.letOut(7));
        for (int never : NEVER) {
            due("letOut(" + never + ")", NONE, pole.letOut(never));
        }
        due("without a green", NONE, new RibbonPole().letOut(0));
    }

    // ---- 25 to 28

    private static void endless() {
        says(25, "Where ENDLESS is told: ribbons never too short, the PLAIT never full, what TAKES is not asked.");
        RibbonPole pole = Poles.figures(Poles.holding(Poles.green("dl1;dl1;dl1"), "y:9"), "o0;o1", "8(o0)");
        due("behind", 2, pole.behind(0, 1, 0));
        due("rounds", 3, pole.rounds(0));
        due("knot", 8, pole.knot(1));
        due("odds", ALL_PARTS, pole.odds(1, 0, 8));
        due("odds", 0, pole.odds(1, 0, 7));
        pole.seen(0, 2, 1, true);
        due("fits", 1, pole.fits());
        due("times is not endless", 0, pole.times(0));
        RibbonPole full = Poles.figures(Poles.full(), "8(o0)", "o0;o2", "8(u1)");
        due("behind a full plait", 1, full.behind(3, 1, 0));
        due("rounds", 2, full.rounds(3));
        due("odds", ALL_PARTS, full.odds(2, 0, 48));
        due("odds", 0, full.odds(2, 0, 47));
        due("odds elsewhere", 0, full.odds(4, 0, 47));
        due("times is not endless", 0, full.times(3));
    }

    private static void behind() {
        says(25, "behind a FIGURE danced n (0 .. 99) times, ENDLESS");
        RibbonPole pole = Poles.figures(Poles.ring(7, ""), "o5;o4;o3;o2;o1;o0", "o6", "w;o7;u9");
        for (int n = 0; n <= 99; n++) {
            due("behind(0, " + n + ", 0)", n % 7, pole.behind(0, n, 0));
        }
        due("behind(0, 100, 0)", NONE, pole.behind(0, 100, 0));
        due("behind(0, -1, 0)", NONE, pole.behind(0, -1, 0));
        due("the last goes to 0", 0, pole.behind(1, 1, 6));
        due("the first goes to the last", 6, pole.behind(1, 1, 0));
        due("places that are not there", 3, pole.behind(2, 99, 3));
        says(25, "STANDS. NONE: no such ones, out of bounds.");
        due("figure 3", NONE, pole.behind(3, 1, 0));
        due("dancer 7", NONE, pole.behind(0, 1, 7));
        for (int never : NEVER) {
            due("figure " + never, NONE, pole.behind(never, 1, 0));
            due("n " + never, NONE, pole.behind(0, never, 0));
            due("dancer " + never, NONE, pole.behind(0, 1, never));
        }
        due("without a green", NONE, Poles.figures(new RibbonPole(), "w").behind(0, 0, 0));
    }

    private static void rounds() {
        says(26, "the fewest times (1 ..), ENDLESS, behind which all stand as now");
        String[] figures = {"w", "o6", "o0;o1", "o0;o1;o2", "o0;o1;o2;o3", "o0;o1;o3"};
        int[] want = {1, 2, 3, 4, 5, 6};
        String[] more = {"o0;o1;o2;o3;o4;o5", "o0;o1;o2;o3;o5", "o0;o1;o2;o4;o5", "o7;u8", "o0;u0", "o0;o2;o4"};
        int[] wantMore = {7, 10, 12, 1, 1, 2};
        RibbonPole pole = Poles.figures(Poles.ring(7, ""), figures);
        RibbonPole other = Poles.figures(Poles.ring(7, ""), more);
        for (int i = 0; i < 6; i++) {
            due("rounds of " + figures[i], want[i], pole.rounds(i));
            due("rounds of " + more[i], wantMore[i], other.rounds(i));
        }
        other.cross(3, true);
        due("as now, not as told", 12, other.rounds(2));
        says(26, "ROUNDS. NONE: no such FIGURE, no GREEN.");
        due("rounds(6)", NONE, pole.rounds(6));
        for (int never : NEVER) {
            due("rounds(" + never + ")", NONE, pole.rounds(never));
        }
        due("without a green", NONE, Poles.figures(new RibbonPole(), "w").rounds(0));
        due("without figures", NONE, Poles.ring(3, "").rounds(0));
    }

    private static void knotAndSame() {
        says(27, "(from an empty pole, as told, ENDLESS)");
        RibbonPole pole = Poles.figures(Poles.green("dl1;dl1;dl1;dl1"), "6(8(o0))", "w", "o0;o2;u0;u2", "o9", "o0;o2", "o2;w;o0;o4");
        int[] want = {48, 0, 0, 0, 2, 2};
        for (int i = 0; i < 6; i++) {
            due("knot(" + i + ")", want[i], pole.knot(i));
        }
        RibbonPole full = Poles.figures(Poles.full(), "u0");
        due("not from a full one", 1, full.knot(2));
        says(27, "KNOT. NONE: no such FIGURE, no GREEN.");
        due("knot(6)", NONE, pole.knot(6));
        for (int never : NEVER) {
            due("knot(" + never + ")", NONE, pole.knot(never));
        }
        due("without a green", NONE, Poles.figures(new RibbonPole(), "w").knot(0));
        says(28, "SAME (1, 0). NONE: no such FIGURES, no GREEN.");
        due("none and none", 1, pole.same(1, 2));
        due("none and one that is not there", 1, pole.same(1, 3));
        due("in another order", 1, pole.same(4, 5));
        due("as many, other letters", 0, Poles.figures(Poles.ring(3, ""), "o0", "u0").same(0, 1));
        due("all alike but the last of 48", 0, Poles.figures(Poles.ring(3, ""), "6(8(o0))", "5(9(o0));o0;o0;o1").same(0, 1));
        due("one begins as the other does", 0, Poles.figures(Poles.ring(3, ""), "o0", "2(o0)").same(0, 1));
        due("of 48 itself", 1, pole.same(0, 0));
        due("(6, 0)", NONE, pole.same(6, 0));
        due("(0, 6)", NONE, pole.same(0, 6));
        for (int never : NEVER) {
            due("(0, " + never + ")", NONE, pole.same(0, never));
            due("(" + never + ", 0)", NONE, pole.same(never, 0));
        }
        due("without a green", NONE, Poles.figures(new RibbonPole(), "w").same(0, 0));
    }

    // ---- 29, 30

    private static void nearest() {
        says(29, "(a row of digits, as many as DANCERS: who stands at PLACE 0, 1 .., the first the highest; each DANCER once)");
        RibbonPole pole = Poles.ring(3, "");
        String orders = " 12 21 102 120 201 210 ";
        for (int order = -220; order <= 220; order++) {
            boolean there = orders.contains(" " + order + " ");
            due("nearest(" + order + ", 0) is told", there, pole.nearest(order, 0) != NONE);
        }
        RibbonPole seven = Poles.ring(7, "");
        due("the lowest order of seven", 0, seven.nearest(123456, 0));
        due("the highest order of seven", 9, seven.nearest(6543210, 0));
        due("of eight", NONE, seven.nearest(76543210, 0));
        due("with a 7", NONE, seven.nearest(7543210, 0));
        due("one twice", NONE, seven.nearest(6543211, 0));
        due("with a digit ahead", NONE, seven.nearest(16543210, 0));
        says(29, "(of several the lowest; they stand so: NONE)");
        due("they stand so", 0, pole.nearest(12, 0));
        due("they stand so", NONE, pole.nearest(12, 1));
        due("at the ring's end", 1, pole.nearest(210, 0));
        due("at the ring's end", 2, pole.nearest(210, 1));
        due("of all three", 0, pole.nearest(120, 1));
        due("of 2 and 4", 2, seven.nearest(132546, 1));
        due("ahead of the ring's end", 5, seven.nearest(123465, 1));
        due("of 4 and the ring's end", 4, seven.nearest(6123540, 1));
        RibbonPole now = Poles.ring(4, "");
        now.cross(1, true);
        due("as they stand now", NONE, now.nearest(213, 1));
        due("from as it is now", 1, now.nearest(123, 1));
        says(29, "NEAREST: how many (0), the PLACE (1). NONE: no GREEN, no such order, no such what.");
        due("what 2", NONE, pole.nearest(210, 2));
        for (int never : NEVER) {
            due("what " + never, NONE, pole.nearest(210, never));
            due("order " + never, NONE, pole.nearest(never, 0));
            due("order " + never, NONE, seven.nearest(never, 1));
        }
        due("without a green", NONE, new RibbonPole().nearest(12, 0));
        due("without a green, no dancer", NONE, new RibbonPole().nearest(0, 0));
    }

    private static void due(String call, boolean want, boolean got) {
        Sentence.due(call, want, got);
    }

    private static void times() {
        says(30, "how often it could be DANCED in whole now, one behind the other (99 at most)");
        RibbonPole pole = Poles.figures(Poles.green("st1;dl99;dl99;dl98"), "o0;u0", "w", "o9", "o1", "3(o1)", "6(8(o0))");
        due("never ends", 99, pole.times(0));
        due("nothing", 99, pole.times(1));
        due("a place that is not there", 99, pole.times(2));
        RibbonPole ends = Poles.figures(Poles.green("st2;dl2;dl9;dl8"), "o2", "o3", "u3", "o5", "u4");
        due("the last place", 1, ends.times(0));
        for (int i = 1; i < 5; i++) {
            due("places behind the last", 99, ends.times(i));
        }
        due("up to a full plait", 40, pole.times(3));
        due("in whole", 13, pole.times(4));
        due("not once", 0, pole.times(5));
        RibbonPole ribbon = Poles.figures(Poles.green("st2;dl6;dl7;dl8"), "o0", "2(o0)", "4(o0)");
        due("to the end of a ribbon", 3, ribbon.times(0));
        due("in whole", 1, ribbon.times(1));
        due("not in whole", 0, ribbon.times(2));
        RibbonPole law = Poles.figures(Poles.holding(Poles.green("dl9;dl9;dl9"), "y:n+1"), "o0", "w;o0");
        due("by what each takes: 1 2 3", 3, law.times(0));
        due("nothing was danced", 0, law.count(1));
        due("no beat came", 0, law.count(6));
        says(30, "TIMES. NONE: no such FIGURE, no GREEN.");
        due("times(6)", NONE, pole.times(6));
        for (int never : NEVER) {
            due("times(" + never + ")", NONE, pole.times(never));
        }
        due("without a green", NONE, Poles.figures(new RibbonPole(), "w").times(0));
    }

    private static void timesLate() {
        says(30, "COINS do not matter, BEATS go on behind 999.");
        RibbonPole pole = Poles.figures(Poles.holding(Poles.green("dl12;dl12;dl12"), "y:b=99?9;y:1"), "o0", "w", "w;o0");
        Poles.late(pole, 999);
        due("nothing at the last beat", 99, pole.times(1));
        due("9 at 999, then 1 each", 4, pole.times(0));
        due("1 each from 1000 on", 12, pole.times(2));
        due("999", 999, pole.count(6));
        RibbonPole poor = Poles.figures(Poles.green("sk0;d;d;d"), "o0;u0");
        due("without a coin", 99, poor.times(0));
        due("coins", 0, poor.rule(1));
        due("a game at the last beat takes 9", -4, pole.game(0, 1, 0, 0));
        due("odds at the last beat", ALL_PARTS, pole.odds(0, 0, 1));
    }

    // ---- 31 to 34

    private static void seen() {
        says(31, "SEEN (10 at most): as told (all at their numbers), behind n (1 .. 9) times one and the same FIGURE, ENDLESS");
        RibbonPole pole = Poles.figures(Poles.ring(3, ""), "o1;o0");
        for (int n = 1; n <= 9; n++) {
            due("seen " + n, n, pole.seen(0, n % 3, n, true));
            due("it fits", 1, pole.fits());
        }
        due("the tenth", 10, pole.seen(2, 2, 1, false));
        due("one more", NONE, pole.seen(2, 2, 1, false));
        due("ten", 10, pole.count(7));
        due("it fits", 1, pole.fits());
        says(31, "SEEN: how many there are. NONE: no such ones, out of bounds, there are ten.");
        RibbonPole other = Poles.ring(3, "");
        due("dancer 3", NONE, other.seen(3, 0, 1, true));
        due("place 3", NONE, other.seen(0, 3, 1, true));
        due("n 0", NONE, other.seen(0, 0, 0, true));
        due("n 10", NONE, other.seen(0, 0, 10, true));
        for (int never : NEVER) {
            due("dancer " + never, NONE, other.seen(never, 0, 1, true));
            due("place " + never, NONE, other.seen(0, never, 1, true));
            due("n " + never, NONE, other.seen(0, 0, never, true));
        }
        due("none was seen", 0, other.count(7));
        due("the last of each", 1, other.seen(2, 2, 9, true));
        due("the first of each", 2, other.seen(0, 0, 1, true));
        due("without a green", NONE, new RibbonPole().seen(0, 0, 1, true));
        Sentence.due("no status", "0 0 0 0 0", Poles.statusOf(other));
    }

    private static void fits() {
        says(32, "FITS, as bits. NONE: no GREEN.");
        due("without a green", NONE, Poles.figures(new RibbonPole(), "w").fits());
        due("without figures", 0, Poles.ring(3, "").fits());
        RibbonPole pole = Poles.figures(Poles.ring(3, ""), "w", "o0", "o1", "o2", "o0;o1", "o1;o0");
        due("nothing was seen: all six", 63, pole.fits());
        pole.seen(0, 0, 2, true);
        due("behind two", 15, pole.fits());
        pole.seen(0, 0, 1, false);
        due("not at 0 behind one", 10, pole.fits());
        due("one with an odd number", 3, pole.seen(1, 1, 2, true));
        due("he fits", 10, pole.fits());
        pole.cross(1, true);
        due("as told, not as now", 10, pole.fits());
        RibbonPole odd = Poles.figures(Poles.ring(3, ""), "w", "o0", "o1", "o2");
        odd.seen(1, 1, 1, true);
        due("1 stays by two of them", 9, odd.fits());
        pole.seen(0, 2, 1, true);
        due("the last place", 8, pole.fits());
        pole.seen(0, 2, 1, false);
        due("none", 0, pole.fits());
    }

    private static void ask() {
        says(33, "the n (1 .. 9) by which the most of these FIGURES that agree in his PLACE are fewest (of several the least)");
        RibbonPole pole = Poles.figures(Poles.ring(7, ""), "o4;o3;o2;o1;o0", "o5;o4;o3;o2;o1;o0");
        due("they part behind six", 6, pole.ask(0));
        due("they part behind one", 1, pole.ask(6));
        due("they part behind two", 2, pole.ask(4));
        RibbonPole alike = Poles.figures(Poles.ring(3, ""), "w", "o0;u0");
        due("they never part: the least", 1, alike.ask(0));
        due("one alone", 1, Poles.figures(Poles.ring(3, ""), "w").ask(2));
        sixAsked();
        askedAtBounds();
        RibbonPole three = Poles.figures(Poles.ring(4, ""), "o0;o1", "o0;o1;w", "o0;o1;o2;o2;o3;o3", "o0;o1;u0");
        due("three of four agree at once: the least", 1, three.ask(3));
        RibbonPole first = Poles.figures(Poles.ring(3, ""), "w", "o0", "o1");
        first.seen(0, 0, 1, true);
        due("of those that fit alone", 1, first.ask(0));
        says(33, "ASK. NONE: nothing fits, no such DANCER.");
        due("ask(3)", NONE, first.ask(3));
        for (int never : NEVER) {
            due("ask(" + never + ")", NONE, first.ask(never));
        }
        first.seen(0, 0, 1, false);
        due("nothing fits", NONE, first.ask(0));
        due("without figures", NONE, Poles.ring(3, "").ask(0));
        due("without a green", NONE, Poles.figures(new RibbonPole(), "w").ask(0));
    }

    /** Six figures at once, at the highest places. */
    private static void sixAsked() {
        String five = "o5;o4";
        RibbonPole pole = Poles.figures(Poles.ring(7, ""), "w", five, five + ";o6;u6", five + ";w", "o5", "o5;o0");
        // 4 stays by three and goes to 5 by the others; behind two he stands at 4 4 4, at 6 by the three.
        due("three and three: the least", 1, pole.ask(4));
        // 5 stays by one, goes to 6 by five; behind two he stands at 5 5 5 and 4 4 4.
        due("five at the last place, then three and three", 2, pole.ask(5));
        // 6 stays by one, goes to 4 by three, to 5 by two; behind two he stands at 6 6 6 and 5 5 5.
        due("three at the most either way: the least", 1, pole.ask(6));
        RibbonPole six = Poles.figures(Poles.ring(7, ""), "w", "o0", "o1", "o2", "o3", "o4");
        due("all six at the last place", 1, six.ask(6));
    }

    private static void askedAtBounds() {
        // By these 0 goes round through 0 5 6 1, 0 6 1, 0 2 6 1 5 3, 0 3 2 1, 0 6 4 3: all part behind nine alone.
        RibbonPole nine = Poles.figures(Poles.ring(7, ""), "o0;o1;o2;o3;o5;o4;o3;o2;o1", "o0;o1;o2;o3;o4;o5;o4;o3;o2;o1",
            "o2;o3;o4;o5;o1;o2;o3;o4;o0;o2;o3;o2;o1", "o0;o1;o2", "o0;o1;o2;o3;o4;o5;o1;o4;o0");
        due("behind nine", 9, nine.ask(0));
        // 0 2 5, 0 1 4, 0 2 5 4, 0, 0 5 3 6, 0 4 1: two agree behind one, none behind ten.
        RibbonPole ten = Poles.figures(Poles.ring(7, ""), "o0;o2;o3;o4;o3;o2;o1;o0", "o1;o2;o3;o2;o1;o0",
            "o0;o2;o3;o4;o2;o1;o0", "w", "o0;o1;o3;o4;o5;o2;o3;o4;o2;o3;o2;o1;o0", "o0;o1;o2;o3;o2;o1");
        due("not behind ten", 1, ten.ask(0));
        // 0, 0 4 2 3 1 6 5, 0 1 2 4 6, 0 4 6 2, 0 4 6, 0: behind two they stand at 0 2 2 6 6 0.
        RibbonPole last = Poles.figures(Poles.ring(7, ""), "w", "o1;o2;o3;o4;o5;o0;o1;o2;o3;o0;o1;o2;o1;o0",
            "o2;o4;o5;o4;o3;o2;o1;o0", "o0;o1;o2;o4;o5;o0;o4;o3;o2", "o0;o1;o2;o4;o5;o4;o3;o2;o1;o0", "w");
        due("two of six at the last place", 2, last.ask(0));
    }

    private static void stripe() {
        says(34, "STRIPE. NONE: no such CROSSING.");
        RibbonPole pole = Poles.green("dc0;dc7;d;dc3");
        due("of an empty plait", NONE, pole.stripe(0));
        pole.cross(3, true);
        pole.cross(0, false);
        due("the first", 3, pole.stripe(0));
        due("the last", 7, pole.stripe(1));
        due("behind the last", NONE, pole.stripe(2));
        for (int never : NEVER) {
            due("stripe(" + never + ")", NONE, pole.stripe(never));
        }
        RibbonPole full = Poles.full();
        due("the fortieth", 3, full.stripe(39));
        due("no forty-first", NONE, full.stripe(40));
        due("without a green", NONE, new RibbonPole().stripe(0));
    }

    // ---- 35, 36

    private static void game() {
        says(35, "can't it be, -3; does it UNDO one, 4; else who goes OVER 6, who goes UNDER 5, less what it TAKES");
        RibbonPole pole = Poles.green("st9;dl9;dl9;dl8;d");
        due("who goes over takes 9", -3, pole.game(0, 0, 1, 0));
        due("who goes under takes 9", -4, pole.game(0, 0, 1, 1));
        due("it can't be, for the one", -3, pole.game(1, 0, 1, 0));
        due("it can't be, for the other", -3, pole.game(1, 0, 1, 1));
        pole.cross(0, true);
        due("it undoes, though nothing is left", 4, pole.game(0, 1, 0, 0));
        due("for the other, too", 4, pole.game(0, 1, 0, 1));
        due("the other way it can't be", -3, pole.game(0, 0, 1, 0));
        RibbonPole cheap = Poles.green("st1;d;d;d");
        due("over by the least", 5, cheap.game(2, 0, 1, 0));
        due("under by the least", 4, cheap.game(2, 0, 1, 1));
        due("the other over", 4, cheap.game(2, 1, 0, 0));
        due("the other over", 5, cheap.game(2, 1, 0, 1));
        due("the plait is full", -3, Poles.full().game(1, 0, 1, 0));
        due("it undoes one of a full plait", 4, Poles.full().game(0, 1, 0, 0));
        says(35, "if one stays, 0; both OVER: -2; both UNDER: -1");
        for (int what = 0; what < 2; what++) {
            for (int own = 0; own < 3; own++) {
                due("the one stays", 0, pole.game(0, 2, own, what));
                due("the other stays", 0, pole.game(0, own, 2, what));
            }
            due("both over", -2, pole.game(1, 0, 0, what));
            due("both under", -1, pole.game(1, 1, 1, what));
        }
        says(35, "GAME: what the one has (0), the other (1). HIDDEN: no such PLACE, out of bounds.");
        due("place 4", HIDDEN, pole.game(4, 0, 0, 0));
        due("x 3", HIDDEN, pole.game(0, 3, 0, 0));
        due("y 3", HIDDEN, pole.game(0, 0, 3, 0));
        due("what 2", HIDDEN, pole.game(0, 0, 0, 2));
        due("x 3, though the other stays", HIDDEN, pole.game(0, 3, 2, 0));
        for (int never : NEVER) {
            due("place " + never, HIDDEN, pole.game(never, 0, 0, 0));
            due("x " + never, HIDDEN, pole.game(0, never, 0, 0));
            due("y " + never, HIDDEN, pole.game(0, 0, never, 0));
            due("what " + never, HIDDEN, pole.game(0, 0, 0, never));
        }
        due("without a green", HIDDEN, new RibbonPole().game(0, 0, 1, 0));
    }

    private static void rests() {
        says(36, "RESTS: how many (i NONE), the i-th. NONE: no such one, no such PLACE.");
        RibbonPole pole = Poles.green("st9;dl9;dl9;dl8;d");
        // It can't be: against one who goes to stay is best, and who stays leaves the other nothing to win.
        restsAre(pole, 1, 2, 12, 20, 21, 22);
        RibbonPole even = Poles.green("st5;d;d;d");
        // Over has 1, under 0, as much as who stays.
        restsAre(even, 0, 1, 2, 10, 20, 22);
        RibbonPole six = Poles.green("st6;d;d;d");
        // Over has 0, under -1: who goes under would rather stay, who goes over wins nothing by it.
        restsAre(six, 2, 2, 12, 20, 21, 22);
        RibbonPole one = Poles.green("st1;d;d;d");
        restsAre(one, 2, 1, 10, 22);
        due("rests(3, NONE)", NONE, one.rests(3, NONE));
        due("rests(0, -2)", NONE, one.rests(0, -2));
        due("rests(0, the lowest)", NONE, one.rests(0, Integer.MIN_VALUE));
        due("rests(0, the highest)", NONE, one.rests(0, Integer.MAX_VALUE));
        for (int never : NEVER) {
            due("rests(" + never + ", NONE)", NONE, one.rests(never, NONE));
        }
        due("without a green", NONE, new RibbonPole().rests(0, NONE));
    }

    private static void restsAre(RibbonPole pole, int spot, int... want) {
        due("how many at " + spot, want.length, pole.rests(spot, NONE));
        for (int i = 0; i < want.length; i++) {
            due("rests(" + spot + ", " + i + ")", want[i], pole.rests(spot, i));
        }
        due("behind the last", NONE, pole.rests(spot, want.length));
    }

    // ---- 37, 38

    private static void oddsRefused() {
        says(37, "ODDS. NONE: no such FIGURE, more than 8 STEPS, no GREEN, out of bounds.");
        RibbonPole pole = Poles.figures(Poles.ring(3, ""), "8(w)", "9(w)", "2(4(o0))", "6(8(o0))");
        due("eight", ALL_PARTS, pole.odds(0, 0, 0));
        due("nine", NONE, pole.odds(1, 0, 0));
        due("eight unrolled", ALL_PARTS, pole.odds(2, 0, 8));
        due("48 unrolled", NONE, pole.odds(3, 0, 60));
        due("figure 4", NONE, pole.odds(4, 0, 0));
        due("chance 101", NONE, pole.odds(0, 101, 0));
        due("v 61", NONE, pole.odds(0, 0, 61));
        for (int never : NEVER) {
            due("figure " + never, NONE, pole.odds(never, 0, 0));
            due("chance " + never, NONE, pole.odds(0, never, 0));
            due("v " + never, NONE, pole.odds(0, 0, never));
        }
        due("without a green", NONE, Poles.figures(new RibbonPole(), "w").odds(0, 0, 0));
    }

    private static void oddsOfBounds() {
        says(37, "ODDS of a FIGURE with 8 STEPS at most UNROLLED, a chance (0 .. 100) and v (0 .. 60)");
        RibbonPole pole = Poles.figures(Poles.ring(3, ""), "o0;u0", "8(o0)", "7(o9);o0", "7(o3);o0");
        due("chance 0, v 0", ALL_PARTS, pole.odds(0, 0, 0));
        due("chance 100, v 0", ALL_PARTS, pole.odds(0, 100, 0));
        due("chance 1", 980200000, pole.odds(0, 1, 0));
        due("chance 99", 980200000, pole.odds(0, 99, 0));
        due("chance 0: eight", 0, pole.odds(1, 0, 7));
        due("chance 0: eight", ALL_PARTS, pole.odds(1, 0, 8));
        due("chance 100: eight", 0, pole.odds(1, 100, 7));
        due("v 60", ALL_PARTS, pole.odds(1, 50, 60));
        says(37, "each of its CROSSINGS (at a PLACE that is there) by chance is danced the other way");
        pole.cross(0, true);
        due("places that are not there have no chance", 10000000, pole.odds(2, 1, 0));
        due("the one behind the last is not there, either", 10000000, pole.odds(3, 1, 0));
        due("behind it", ALL_PARTS, pole.odds(2, 1, 2));
        RibbonPole ends = Poles.figures(Poles.ring(3, ""), "o2", "o3;u3;o4;u5", "o2;4(o3);u2");
        due("the last place", 0, ends.odds(0, 50, 0));
        due("places behind the last", ALL_PARTS, ends.odds(1, 50, 0));
        due("places behind the last between", 500000000, ends.odds(2, 50, 0));
        due("one is never left", 10000000, pole.odds(2, 1, 1));
    }

    /** Of the parts of a way each step's chance, cut, goes the other way; a twin dances each way by hand. */
    private static void oddsCut() {
        says(37, "(of each part chance 100ths, cut, the other way)");
        int[] letters = {0, 2, 1, 3, 0, 1, 3, 4};
        for (int chance : new int[] {1, 3, 33, 50, 99}) {
            RibbonPole pole = Poles.figures(Poles.ring(3, "l99"), "o0;o1;u0;u1;o0;u0;u1;o2");
            long[] parts = new long[9];
            for (int turned = 0; turned < 256; turned++) {
                RibbonPole twin = Poles.ring(3, "l99");
                long part = ALL_PARTS;
                for (int i = 0; i < 8; i++) {
                    boolean turns = (turned >> i & 1) == 1;
                    long other = part * chance / 100;
                    part = turns ? other : part - other;
                    twin.cross(letters[i] / 2, letters[i] % 2 == 0 != turns);
                }
                parts[twin.count(1)] += part;
            }
            long all = 0;
            for (int v = 0; v <= 8; v++) {
                all += parts[v];
                due("odds(0, " + chance + ", " + v + ")", all, pole.odds(0, chance, v));
            }
            due("no part is lost", ALL_PARTS, all);
        }
    }

    private static void shares() {
        says(38, "SHARES of c (0 .. 999) by what the PLAIT took of ribbons: for a DANCER c times his by that of all, cut (none: 0)");
        RibbonPole pole = Poles.green("st9;dl99;dl99;dl99;dl99");
        due("none took", 0, pole.shares(0, 999));
        pole.cross(3, true);
        due("half, cut", 499, pole.shares(0, 999));
        due("half", 499, pole.shares(3, 998));
        due("of 0", 0, pole.shares(0, 0));
        due("of 1", 0, pole.shares(0, 1));
        due("of 2", 1, pole.shares(0, 2));
        due("he has none", 0, pole.shares(1, 999));
        RibbonPole high = Poles.figures(Poles.green("st2;dl99;dl99;d;d"), "5(8(o0))");
        due("forty crossings", 40, high.dance(0));
        due("half of the most", 499, high.shares(0, 999));
        due("he has none", 0, high.shares(2, 999));
        says(38, "SHARES. NONE: no such DANCER, out of bounds.");
        due("c 1000", NONE, pole.shares(0, 1000));
        due("dancer 4", NONE, pole.shares(4, 1));
        for (int never : NEVER) {
            due("c " + never, NONE, pole.shares(0, never));
            due("dancer " + never, NONE, pole.shares(never, 0));
        }
        due("out of bounds though none took", NONE, Poles.ring(3, "").shares(0, 1000));
        due("without a green", NONE, new RibbonPole().shares(0, 0));
    }

    // ---- 39, 42

    private static void mostOfSeveral() {
        says(39, "LONGEST, SHORTEST: who has most, least LEFT; BUSIEST: with most CROSSINGS in the PLAIT; SUREST"
            + " (of several the lowest, all).");
        RibbonPole alike = Poles.ring(7, "");
        for (int what = 0; what < 4; what++) {
            due("all alike: most(" + what + ")", 0, alike.most(what));
        }
        RibbonPole pole = Poles.green("dl20s3;dl30s9;dl9s0;dl30s9;dl9s0");
        due("longest", 1, pole.most(0));
        due("shortest", 2, pole.most(1));
        due("surest", 1, pole.most(3));
        pole.cross(3, true);
        due("longest by what is left", 1, pole.most(0));
        due("shortest by what is left", 4, pole.most(1));
        due("busiest", 3, pole.most(2));
        pole.cross(1, true);
        due("busiest of four", 1, pole.most(2));
        due("longest of both again", 1, pole.most(0));
        due("shortest of both again", 2, pole.most(1));
        RibbonPole last = Poles.green("dl2s8;dl2s8;dl99s9");
        due("the last is the longest", 2, last.most(0));
        due("the last is the surest", 2, last.most(3));
        due("the last is the shortest", 2, Poles.green("dl2;dl2;dl1").most(1));
    }

    private static void mostOfNone() {
        says(39, "DEPTH: the highest LAYER (none: 0)");
        RibbonPole pole = Poles.ring(7, "");
        due("none", 0, pole.most(4));
        pole.cross(6, true);
        due("one", 1, pole.most(4));
        pole.cross(0, true);
        due("two round the ring's end", 2, pole.most(4));
        says(39, "behind which there is none that TOUCHES them; FIRST: likewise ahead of which");
        due("loose", 1, pole.most(6));
        due("first", 1 << 12, pole.most(7));
        RibbonPole none = Poles.ring(7, "");
        due("loose of none", 0, none.most(6));
        due("first of none", 0, none.most(7));
        none.cross(6, false);
        none.cross(1, true);
        none.cross(4, false);
        due("the highest letter is a bit, too", 1 << 13 | 1 << 2 | 1 << 9, none.most(6));
        due("all are first", 1 << 13 | 1 << 2 | 1 << 9, none.most(7));
        RibbonPole three = Poles.ring(3, "");
        three.cross(0, true);
        three.cross(2, false);
        due("of three places one is loose", 1 << 5, three.most(6));
        due("of three places one is first", 1, three.most(7));
        says(39, "FREE: DANCERS (bits) without a CROSSING in the PLAIT.");
        due("all seven", 127, Poles.ring(7, "").most(8));
        due("all but four", 127 & ~(1 << 6 | 1 | 1 << 1 | 1 << 2 | 1 << 4 | 1 << 5), none.most(8));
        due("none", 0, Poles.full().most(8));
        says(39, "CHANGES: how often STRIPE is another one than the one ahead, up the PLAIT.");
        RibbonPole stripes = Poles.green("dc1;dc2;dc1;dc1");
        due("of none", 0, stripes.most(9));
        stripes.cross(0, true);
        due("of one", 0, stripes.most(9));
        stripes.cross(2, true);
        due("of two alike", 0, stripes.most(9));
        stripes.cross(0, true);
        due("1 2 1 in order 0 0 4", 2, stripes.most(9));
    }

    private static void mostOfFull() {
        says(39, "TWIST: CROSSINGS o in the PLAIT less CROSSINGS u. TAKEN: what the PLAIT took of all ribbons together.");
        RibbonPole none = Poles.ring(3, "");
        due("twist of none", 0, none.most(10));
        due("taken of none", 0, none.most(11));
        RibbonPole full = Poles.full();
        due("twist of twenty each", 0, full.most(10));
        due("taken by forty", 80, full.most(11));
        due("changes: 1 2 1 2 .., then 3 alone", 20, full.most(9));
        RibbonPole under = Poles.figures(Poles.holding(Poles.green(Poles.LONG), "y:1"), "5(8(u0))");
        under.dance(0);
        due("twist of forty u", -40, under.most(10));
        due("depth of forty", 40, under.most(4));
        RibbonPole tight = Poles.figures(Poles.green("st9;dl99;dl99;dl99;dl99"), "9(o0;o2);2(o0;o2)");
        due("twenty-two", 22, tight.dance(0));
        due("all ribbons are used up", 396, tight.most(11));
        due("twist", 22, tight.most(10));
        says(39, "HOME: how many DANCERS stand at the PLACE of their number.");
        due("all seven", 7, Poles.ring(7, "").most(12));
        RibbonPole away = Poles.ring(3, "");
        away.cross(0, true);
        due("one", 1, away.most(12));
        away.cross(1, true);
        due("none", 0, away.most(12));
        says(39, "ORDER OF ALL: who stands at PLACE 0, 1 .. (a row of digits)");
        due("0 ahead", 12, Poles.ring(3, "").most(5));
        due("of seven", 123456, Poles.ring(7, "").most(5));
        RibbonPole seven = Poles.ring(7, "");
        seven.cross(6, true);
        due("0 behind", 6123450, seven.most(5));
    }

    private static void mostRefused() {
        says(39, "HIDDEN: no GREEN, no such what.");
        RibbonPole pole = Poles.ring(3, "");
        due("most(13)", HIDDEN, pole.most(13));
        for (int never : NEVER) {
            due("most(" + never + ")", HIDDEN, pole.most(never));
        }
        for (int what = -1; what <= 13; what++) {
            due("most(" + what + ") without a green", HIDDEN, new RibbonPole().most(what));
        }
    }

    private static void counts() {
        says(42, "8 how long the LOG is, 9 ACTS that can be UNDONE. HIDDEN for others.");
        RibbonPole pole = new RibbonPole();
        int[] first = {0, 0, 0, 0, 0, NONE, 0, 0, 0, 0};
        for (int what = 0; what < 10; what++) {
            due("count(" + what + ") at first", first[what], pole.count(what));
        }
        for (int i = 0; i < 4; i++) {
            Check.text(pole, 1, "y:1");
        }
        for (int i = 0; i < 5; i++) {
            Check.text(pole, 2, "5(8(o0))");
        }
        pole.law(3);
        Check.text(pole, 0, "dl99;dl99;d;d;d;d;d");
        pole.dance(0);
        for (int i = 0; i < 10; i++) {
            pole.seen(0, 0, 9, true);
        }
        Poles.late(pole, 999);
        Check.tape(pole, "x".repeat(240));
        int[] most = {7, 40, 4, 6, 240, 3, 999, 10, 60, 40};
        for (int what = 0; what < 10; what++) {
            due("count(" + what + ") at most", most[what], pole.count(what));
        }
        due("count(10)", HIDDEN, pole.count(10));
        for (int never : NEVER) {
            due("count(" + never + ")", HIDDEN, pole.count(never));
        }
        due("count(10) without a green", HIDDEN, new RibbonPole().count(10));
        pole.law(NONE);
        says(42, "5 the LAW that holds (NONE)");
        due("none holds", NONE, pole.count(5));
    }
}
