import java.util.function.Supplier;
import java.util.function.ToIntFunction;

/** Boundaries of beats and acts, of what is refused, of the log and of undoing: promises 12 to 17, 19 to 21, 40, 41. */
final class ActBoundaries {
    private static final int NONE = RibbonPole.NONE;

    private ActBoundaries() {
    }

    static void all() {
        beats();
        logs();
        coinsOfBeats();
        dances();
        dancesRefused();
        downs();
        downsRefused();
        longer();
        longerRefused();
        gives();
        undone();
        eachActUndone();
        statusByNumber();
        statusOfSeveral();
        nothingButStatus();
        lateAndFullChangeNothing();
        images();
    }

    private static void says(int promise, String words) {
        Sentence.says(promise, words);
    }

    private static void due(String call, long want, long got) {
        Sentence.due(call, want, got);
    }

    private static void due(String call, String want, String got) {
        Sentence.due(call, want, got);
    }

    private static void status(RibbonPole pole, String want) {
        Sentence.due("status", want, Poles.statusOf(pole));
    }

    // ---- 13, 21

    private static void beats() {
        says(13, "A BEAT (0 at first; 999 at most: none comes by then)");
        RibbonPole pole = Poles.ring(3, "");
        due("0 at first", 0, pole.count(6));
        due("the first", 1, pole.beat());
        Poles.late(pole, 997);
        due("beat", 998, pole.beat());
        due("the last", 999, pole.beat());
        due("none comes", NONE, pole.beat());
        due("still", 999, pole.count(6));
        pole.undo();
        due("one comes again", 999, pole.beat());
        says(13, "A BEAT without anything: the BEAT. NONE: no GREEN (STATUS 0), beyond 999 (4).");
        due("beyond", NONE, pole.beat());
        status(pole, "0 0 0 0 2");
        RibbonPole bare = new RibbonPole();
        due("without a green", NONE, bare.beat());
        status(bare, "1 0 0 0 0");
        due("no beat came", 0, bare.count(6));
    }

    private static void logs() {
        says(21, "its LETTER (20: nothing), whether it UNDID one (1, 0), how many CROSSINGS are in the PLAIT then (the latest 60)");
        RibbonPole pole = Poles.ring(7, "");
        pole.cross(6, false);
        pole.beat();
        pole.cross(6, true);
        int[][] want = {{12, 1, 0}, {20, 0, 1}, {13, 0, 1}};
        for (int i = 0; i < 3; i++) {
            for (int what = 0; what < 3; what++) {
                due("log(" + i + ", " + what + ")", want[i][what], pole.log(i, what));
            }
        }
        due("three", 3, pole.count(8));
        Poles.late(pole, 60);
        due("sixty", 60, pole.count(8));
        due("the oldest", 13, pole.log(59, 0));
        pole.beat();
        due("sixty still", 60, pole.count(8));
        due("the oldest now", 20, pole.log(59, 0));
        pole.beat();
        due("the oldest then", 12, pole.log(59, 0));
        due("the forty crossings of a full plait", 40, Poles.full().log(0, 2));
        says(21, "2 CROSSINGS. NONE: no such ones.");
        due("log(60, 0)", NONE, pole.log(60, 0));
        due("log(-1, 0)", NONE, pole.log(-1, 0));
        due("log(0, 3)", NONE, pole.log(0, 3));
        due("log(0, -1)", NONE, pole.log(0, -1));
        due("i the lowest", NONE, pole.log(Integer.MIN_VALUE, 0));
        due("i the highest", NONE, pole.log(Integer.MAX_VALUE, 0));
        RibbonPole fresh = Poles.ring(3, "");
        due("no beat yet", NONE, fresh.log(0, 0));
        fresh.give(1);
        due("coins are no beat", NONE, fresh.log(0, 0));
        fresh.beat();
        due("behind the only one", NONE, fresh.log(1, 0));
        due("without a green", NONE, new RibbonPole().log(0, 0));
    }

    /** 99 coins and 18 times 50 make 999. */
    private static RibbonPole rich(int coins) {
        RibbonPole pole = Poles.green("sk99;d;d;d;d");
        for (int i = 0; i < (coins - 99) / 50; i++) {
            pole.give(50);
        }
        if ((coins - 99) % 50 > 0) {
            pole.give((coins - 99) % 50);
        }
        due("coins", coins, pole.rule(1));
        return pole;
    }

    private static void coinsOfBeats() {
        says(12, "COINS one more, if it UNDID one (999 at most)");
        RibbonPole pole = rich(998);
        pole.cross(0, true);
        due("it undid none", 998, pole.rule(1));
        pole.cross(0, false);
        due("it undid one", 999, pole.rule(1));
        pole.cross(0, true);
        due("cross at 999 coins", 1, pole.cross(0, false));
        due("999 at most", 999, pole.rule(1));
        pole.cross(0, true);
        due("down at 999 coins", 1, pole.down(1));
        due("999 at most", 999, pole.rule(1));
        due("as many acts", 24, pole.count(9));
    }

    // ---- 14, 15

    private static void dances() {
        says(14, "(a PLACE that is not there: a BEAT without anything)");
        RibbonPole pole = Poles.figures(Poles.ring(3, ""), "o3;u9;o2;u3", "9(o0)", "w;o0");
        due("dance", 4, pole.dance(0));
        due("beats", 4, pole.count(6));
        due("one crossing", 1, pole.count(1));
        due("u3 is nothing", 20, pole.log(0, 0));
        due("o2 is there", 4, pole.log(1, 0));
        due("u9 is nothing", 20, pole.log(2, 0));
        says(14, "up to one that can't be");
        pole = Poles.figures(Poles.green("st2;dl4;d;d"), "w;9(o0)", "o0;w;w", "w;w");
        due("w and two crossings", 3, pole.dance(0));
        due("beats", 3, pole.count(6));
        due("acts", 3, pole.count(9));
        due("one more of w alone", 1, pole.dance(0));
        due("none of it", 0, pole.dance(1));
        due("none of it at the last place", 0, pole.dance(Check.text(pole, 2, "o2")));
        due("no beat came", 4, pole.count(6));
        due("no act came", 4, pole.count(9));
        status(pole, "0 0 0 0 0");
        RibbonPole full = Poles.full();
        due("the plait is full", 0, full.dance(0));
        due("back first", 1, full.cross(0, false));
        due("then one", 1, full.dance(0));
        status(full, "0 0 0 0 0");
        RibbonPole late = Poles.late(Poles.figures(Poles.ring(3, ""), "2(o0)"), 997);
        due("to the last beat", 2, late.dance(0));
        late.undo();
        due("one of two", 1, late.dance(0));
        due("999", 999, late.count(6));
        status(late, "0 0 0 0 0");
    }

    private static void dancesRefused() {
        says(14, "NONE: no such FIGURE, no GREEN (STATUS 0), beyond 999 ahead of the first one (4).");
        RibbonPole pole = Poles.figures(Poles.ring(3, ""), "w", "2(o0;u0)");
        due("figure 2 of two", NONE, pole.dance(2));
        due("figure -1", NONE, pole.dance(-1));
        due("figure the lowest", NONE, pole.dance(Integer.MIN_VALUE));
        due("figure the highest", NONE, pole.dance(Integer.MAX_VALUE));
        status(pole, "4 0 0 0 0");
        RibbonPole bare = Poles.figures(new RibbonPole(), "w");
        due("without a green", NONE, bare.dance(0));
        due("without figure and green", NONE, bare.dance(1));
        status(bare, "2 0 0 0 0");
        Poles.late(pole, 999);
        due("beyond", NONE, pole.dance(0));
        due("beyond", NONE, pole.dance(1));
        status(pole, "4 0 0 0 2");
        due("no such figure, and beyond", NONE, pole.dance(3));
        status(pole, "5 0 0 0 2");
        due("999", 999, pole.count(6));
    }

    private static void downs() {
        says(15, "the PLAIT is taken DOWN by n (1 .. 9) BEATS");
        RibbonPole pole = Poles.figures(Poles.ring(4, "l99"), "5(o0;o2)");
        pole.dance(0);
        due("down(0)", NONE, pole.down(0));
        due("down(10)", NONE, pole.down(10));
        due("down(9)", 9, pole.down(9));
        due("one is left", 1, pole.count(1));
        due("beats", 19, pole.count(6));
        due("coins", 29, pole.rule(1));
        due("acts", 19, pole.count(9));
        due("down(1)", 1, pole.down(1));
        due("none is left", 0, pole.count(1));
        says(15, "of those that could be the last (LOOSE, below), the one with the highest LETTER; up to the end of the PLAIT");
        pole = Poles.ring(7, "");
        pole.cross(3, true);
        pole.cross(6, false);
        pole.cross(5, true);
        // 13 is bound by 10; of 6 and 10 the higher is the last.
        due("three of nine", 3, pole.down(9));
        int[] letters = {7, 12, 11};
        for (int i = 0; i < 3; i++) {
            due("the crossing that undoes: log(" + i + ", 0)", letters[i], pole.log(i, 0));
            due("log(" + i + ", 1)", 1, pole.log(i, 1));
            due("log(" + i + ", 2)", i, pole.log(i, 2));
        }
        due("all home", 7, pole.most(12));
        pole.cross(0, true);
        pole.cross(2, true);
        due("as many as there are", 2, pole.down(2));
    }

    private static void downsRefused() {
        says(15, "NONE: no GREEN (STATUS 0), out of bounds (1), no CROSSING (2), beyond 999 ahead of the first one (4).");
        RibbonPole bare = new RibbonPole();
        due("without a green", NONE, bare.down(1));
        due("without a green, out of bounds", NONE, bare.down(0));
        status(bare, "2 0 0 0 0");
        RibbonPole pole = Poles.ring(4, "");
        due("no crossing", NONE, pole.down(1));
        due("no crossing", NONE, pole.down(9));
        status(pole, "0 0 2 0 0");
        for (int n : new int[] {0, 10, -1, Integer.MIN_VALUE, Integer.MAX_VALUE}) {
            due("down(" + n + ")", NONE, pole.down(n));
        }
        status(pole, "0 5 2 0 0");
        pole.cross(0, true);
        pole.cross(2, true);
        Poles.late(pole, 998);
        due("up to the last beat", 1, pole.down(2));
        due("999", 999, pole.count(6));
        due("beyond", NONE, pole.down(1));
        status(pole, "0 5 2 0 1");
        due("one is left", 1, pole.count(1));
    }

    // ---- 16, 17

    private static void longer() {
        says(16, "a ribbon is made n (1 .. 20) LONGER (LENGTH 99 at most; n COINS)");
        RibbonPole pole = Poles.green("sk41;dl79;dl98;d");
        due("longer(0, 20)", 99, pole.longer(0, 20));
        due("coins", 21, pole.rule(1));
        due("longer(1, 1)", 99, pole.longer(1, 1));
        due("coins", 20, pole.rule(1));
        due("with all coins", 50, pole.longer(2, 20));
        due("no coin", 0, pole.rule(1));
        due("without a coin", NONE, pole.longer(2, 1));
        due("length now", 50, pole.dancer(2, 1));
        due("left now", 50, pole.dancer(2, 4));
        due("no beat", 0, pole.count(6));
        due("acts", 3, pole.count(9));
        says(16, "LONGER: LENGTH then.");
        RibbonPole shortOne = Poles.green("st2;dl1;d;d");
        due("too short", NONE, shortOne.cross(0, true));
        due("longer", 2, shortOne.longer(0, 1));
        due("long enough", 0, shortOne.cross(0, true));
        due("the length, not what is left", 3, shortOne.longer(0, 1));
    }

    private static void longerRefused() {
        says(16, "NONE: no such DANCER (STATUS 0), out of bounds (1), too few COINS, above 99 (3).");
        RibbonPole bare = new RibbonPole();
        due("without a green", NONE, bare.longer(0, 1));
        status(bare, "1 0 0 0 0");
        RibbonPole pole = Poles.green("sk15;dl84;dl85;d");
        for (int dancer : new int[] {-1, 3, Integer.MIN_VALUE, Integer.MAX_VALUE}) {
            due("longer(" + dancer + ", 1)", NONE, pole.longer(dancer, 1));
        }
        status(pole, "4 0 0 0 0");
        for (int n : new int[] {0, 21, -1, Integer.MIN_VALUE, Integer.MAX_VALUE}) {
            due("longer(0, " + n + ")", NONE, pole.longer(0, n));
        }
        status(pole, "4 5 0 0 0");
        due("16 of 15 coins", NONE, pole.longer(2, 16));
        due("85 and 15", NONE, pole.longer(1, 15));
        status(pole, "4 5 0 2 0");
        due("84 and 15, with 15 coins", 99, pole.longer(0, 15));
        status(pole, "4 5 0 2 0");
        due("one act", 1, pole.count(9));
    }

    private static void gives() {
        says(17, "COINS are given (1 .. 50; 999 at most).");
        RibbonPole pole = Poles.green("sk0;d;d;d");
        due("give(1)", 1, pole.give(1));
        due("give(50)", 51, pole.give(50));
        due("give(0)", NONE, pole.give(0));
        due("give(51)", NONE, pole.give(51));
        due("coins", 51, pole.rule(1));
        RibbonPole rich = rich(949);
        due("to 999", 999, rich.give(50));
        says(17, "NONE: no GREEN (STATUS 0), out of bounds, above 999 (1).");
        for (int n : new int[] {-1, Integer.MIN_VALUE, Integer.MAX_VALUE}) {
            due("give(" + n + ")", NONE, pole.give(n));
        }
        status(pole, "0 5 0 0 0");
        due("above 999", NONE, rich.give(1));
        rich = rich(950);
        due("950 and 50", NONE, rich.give(50));
        status(rich, "0 1 0 0 0");
        due("coins", 950, rich.rule(1));
        due("950 and 49", 999, rich.give(49));
        RibbonPole bare = new RibbonPole();
        due("without a green", NONE, bare.give(1));
        due("without a green, out of bounds", NONE, bare.give(0));
        status(bare, "2 0 0 0 0");
    }

    // ---- 20

    private static void undone() {
        says(20, "All these (each BEAT) are ACTS: the latest 40 can be UNDONE one by one (LOG, too).");
        RibbonPole pole = Poles.figures(Poles.ring(4, "l99"), "5(8(w))");
        pole.cross(3, false);
        due("forty steps are forty acts", 40, pole.dance(0));
        due("forty at most", 40, pole.count(9));
        for (int i = 39; i >= 0; i--) {
            due("undo", i, pole.undo());
        }
        due("the forty-first can't be", NONE, pole.undo());
        due("the crossing stays", 1, pole.count(1));
        due("its beat", 1, pole.count(6));
        due("its log", 7, pole.log(0, 0));
        pole.beat();
        due("a new act", 1, pole.count(9));
        due("undo", 0, pole.undo());
        RibbonPole old = Poles.ring(4, "");
        old.cross(3, false);
        Poles.late(old, 61);
        due("the log has lost it", 20, old.log(59, 0));
        old.undo();
        due("the log has it again", 7, old.log(59, 0));
        due("sixty", 60, old.count(8));
        old.undo();
        due("fifty-nine", 59, old.count(8));
        says(20, "The latest ACT is UNDONE: how many still can be. NONE: none.");
        due("nothing was done", NONE, Poles.ring(3, "").undo());
        due("without a green", NONE, new RibbonPole().undo());
        RibbonPole refused = Poles.ring(3, "");
        refused.cross(3, true);
        refused.give(0);
        due("what was refused is no act", NONE, refused.undo());
        refused.give(1);
        refused.seen(0, 0, 1, true);
        refused.image();
        due("an image and what was seen are no acts", 0, refused.undo());
    }

    /** What is done ahead of each act below: crossings to be undone, coins, a log. */
    private static RibbonPole begun() {
        RibbonPole pole = Poles.figures(Poles.holding(Poles.green("st2k9w9;dl9;dl99;dl9;dl99"), "y:n+1"), "o2;w;o1");
        pole.cross(0, true);
        pole.cross(2, false);
        pole.give(3);
        return pole;
    }

    private static void eachActUndone() {
        says(20, "one by one (LOG, too)");
        undoes("cross", pole -> pole.cross(1, true), 1);
        undoes("cross that undoes", pole -> pole.cross(0, false), 1);
        undoes("beat", RibbonPole::beat, 1);
        undoes("dance", pole -> pole.dance(0), 3);
        undoes("down", pole -> pole.down(9), 2);
        undoes("longer", pole -> pole.longer(0, 5), 1);
        undoes("give", pole -> pole.give(50), 1);
        undoes("years", pole -> pole.years(30, 7), 30);
    }

    private static void undoes(String name, ToIntFunction<RibbonPole> act, int acts) {
        RibbonPole pole = begun();
        act.applyAsInt(pole);
        due("acts of " + name, 3 + acts, pole.count(9));
        for (int i = acts - 1; i >= 0; i--) {
            due("undo of " + name, 3 + i, pole.undo());
        }
        due("all is as ahead of " + name, Poles.state(begun()), Poles.state(pole));
    }

    // ---- 19

    private static void statusByNumber() {
        says(19, "how many ACTS were refused as there was no such one (0)");
        RibbonPole pole = new RibbonPole();
        for (int i = 0; i < 30; i++) {
            pole.beat();
        }
        status(pole, "30 0 0 0 0");
        says(19, "out of bounds, no such PLACE (1)");
        pole = Poles.ring(3, "");
        pole.cross(3, true);
        pole.down(0);
        pole.longer(0, 0);
        pole.give(0);
        status(pole, "0 4 0 0 0");
        says(19, "a ribbon is too short, there is no CROSSING (2)");
        pole = Poles.green("dl1;d;d");
        pole.cross(0, true);
        pole.down(1);
        status(pole, "0 0 2 0 0");
        says(19, "too few COINS, the PLAIT is full, above 99 (3)");
        pole = Poles.full();
        pole.cross(0, true);
        pole.longer(0, 1);
        pole.longer(0, 10);
        status(pole, "0 0 0 3 0");
        says(19, "beyond the last BEAT (4)");
        pole = Poles.late(Poles.ring(3, ""), 998);
        pole.cross(0, true);
        pole.cross(0, true);
        pole.beat();
        pole.dance(0);
        pole.down(1);
        status(pole, "0 0 0 0 4");
        says(19, "STATUS. NONE: no such what.");
        for (int what : new int[] {-1, 5, Integer.MIN_VALUE, Integer.MAX_VALUE}) {
            due("status(" + what + ")", NONE, pole.status(what));
        }
        due("status(4)", 4, pole.status(4));
        due("status(0) at first", 0, new RibbonPole().status(0));
    }

    private static void statusOfSeveral() {
        says(19, "of several the first; not UNDONE");
        RibbonPole late = Poles.late(Poles.green("dl1;d;d"), 999);
        late.cross(3, true);
        status(late, "0 1 0 0 0");
        late.cross(0, true);
        status(late, "0 1 1 0 0");
        late.down(1);
        status(late, "0 1 2 0 0");
        late.down(0);
        status(late, "0 2 2 0 0");
        late.dance(9);
        status(late, "1 2 2 0 0");
        RibbonPole full = Poles.late(Poles.full(), 999);
        full.cross(0, true);
        status(full, "0 0 0 1 0");
        RibbonPole worn = Poles.full("dl20;dl20;dl20;dl20");
        worn.cross(0, true);
        status(worn, "0 0 1 0 0");
        RibbonPole pole = Poles.ring(3, "l99");
        pole.longer(3, 0);
        pole.longer(0, 21);
        pole.longer(0, 20);
        status(pole, "1 1 0 1 0");
        pole.image();
        pole.give(1);
        pole.undo();
        status(pole, "1 1 0 1 0");
        pole.back();
        status(pole, "1 1 0 1 0");
    }

    /** What is refused below is refused here: ribbons of 9 and 5, nine coins, a tape that is no text, one figure, one law. */
    private static RibbonPole asked() {
        RibbonPole pole = Poles.figures(Poles.holding(Poles.green("st2k9w3;dl9;dl5;dl99;d"), "y:n+3"), "o0;w;o2");
        pole.cross(0, true);
        pole.cross(2, true);
        pole.give(1);
        pole.seen(0, 1, 1, true);
        Check.tape(pole, "dx");
        return pole;
    }

    private static void unchanged(String call, Supplier<RibbonPole> maker, ToIntFunction<RibbonPole> act, String status) {
        RibbonPole pole = maker.get();
        due(call, NONE, act.applyAsInt(pole));
        due("status behind " + call, status, Poles.statusOf(pole));
        due("the state behind " + call, Poles.state(maker.get()), Poles.state(pole));
    }

    private static void nothingButStatus() {
        says(19, "What is refused answers as told and changes nothing but STATUS.");
        Supplier<RibbonPole> asked = ActBoundaries::asked;
        unchanged("end(3)", asked, pole -> pole.end(3) ? 1 : NONE, "0 0 0 0 0");
        unchanged("text(0)", asked, pole -> pole.text(0), "0 0 0 0 0");
        unchanged("text(1)", asked, pole -> pole.text(1), "0 0 0 0 0");
        unchanged("text(2)", asked, pole -> pole.text(2), "0 0 0 0 0");
        unchanged("text(3)", asked, pole -> pole.text(3), "0 0 0 0 0");
        unchanged("law(1)", asked, pole -> pole.law(1) ? 1 : NONE, "0 0 0 0 0");
        unchanged("cross(4)", asked, pole -> pole.cross(4, true), "0 1 0 0 0");
        unchanged("cross(0)", asked, pole -> pole.cross(0, true), "0 0 1 0 0");
        unchanged("dance(1)", asked, pole -> pole.dance(1), "1 0 0 0 0");
        unchanged("down(10)", asked, pole -> pole.down(10), "0 1 0 0 0");
        unchanged("longer(4, 1)", asked, pole -> pole.longer(4, 1), "1 0 0 0 0");
        unchanged("longer(0, 21)", asked, pole -> pole.longer(0, 21), "0 1 0 0 0");
        unchanged("longer(0, 11)", asked, pole -> pole.longer(0, 11), "0 0 0 1 0");
        unchanged("longer(2, 1)", asked, pole -> pole.longer(2, 1), "0 0 0 1 0");
        unchanged("give(51)", asked, pole -> pole.give(51), "0 1 0 0 0");
        unchanged("years(61)", asked, pole -> pole.years(61, 1), "0 0 0 0 0");
        unchanged("years(0)", asked, pole -> pole.years(0, 1), "0 0 0 0 0");
        unchanged("back()", asked, RibbonPole::back, "0 0 0 0 0");
        unchanged("seen(4, 0, 1)", asked, pole -> pole.seen(4, 0, 1, true), "0 0 0 0 0");
        unchanged("seen(0, 0, 10)", asked, pole -> pole.seen(0, 0, 10, true), "0 0 0 0 0");
    }

    private static void lateAndFullChangeNothing() {
        says(19, "answers as told and changes nothing but STATUS");
        Supplier<RibbonPole> late = () -> Poles.late(Poles.ring(3, ""), 999);
        unchanged("cross at 999", late, pole -> pole.cross(0, true), "0 0 0 0 1");
        unchanged("beat at 999", late, RibbonPole::beat, "0 0 0 0 1");
        unchanged("dance at 999", late, pole -> pole.dance(0), "0 0 0 0 1");
        unchanged("down at 999", late, pole -> pole.down(1), "0 0 1 0 0");
        unchanged("years at 999", late, pole -> pole.years(1, 1), "0 0 0 0 0");
        unchanged("cross of a full plait", Poles::full, pole -> pole.cross(0, true), "0 0 0 1 0");
        Supplier<RibbonPole> bare = () -> Poles.figures(new RibbonPole(), "w");
        unchanged("cross without a green", bare, pole -> pole.cross(0, true), "1 0 0 0 0");
        unchanged("beat without a green", bare, RibbonPole::beat, "1 0 0 0 0");
        unchanged("dance without a green", bare, pole -> pole.dance(0), "1 0 0 0 0");
        unchanged("down without a green", bare, pole -> pole.down(1), "1 0 0 0 0");
        unchanged("longer without a green", bare, pole -> pole.longer(0, 1), "1 0 0 0 0");
        unchanged("give without a green", bare, pole -> pole.give(1), "1 0 0 0 0");
        unchanged("years without a green", bare, pole -> pole.years(1, 1), "0 0 0 0 0");
        unchanged("undo without a green", bare, RibbonPole::undo, "0 0 0 0 0");
        unchanged("image without a green", bare, RibbonPole::image, "0 0 0 0 0");
        unchanged("back without a green", bare, RibbonPole::back, "0 0 0 0 0");
    }

    // ---- 40, 41

    private static void images() {
        says(40, "An IMAGE (instead of the one ahead): the BEAT. NONE: no GREEN.");
        due("without a green", NONE, new RibbonPole().image());
        RibbonPole pole = Poles.ring(3, "");
        due("image", 0, pole.image());
        pole.cross(0, true);
        due("another image", 1, pole.image());
        pole.cross(1, true);
        due("back to the latter", 1, pole.back());
        due("not to the one ahead", 1, pole.count(1));
        due("and again", 1, pole.back());
        due("image of the last beat", 999, Poles.late(pole, 999).image());
        says(40, "An IMAGE keeps where all stand, LENGTHS, the PLAIT, COINS, the BEAT, the LOG");
        RibbonPole kept = begun();
        kept.image();
        kept.years(60, 3);
        kept.longer(0, 1);
        due("back", 2, kept.back());
        // Of the counts, which stand ahead, the last alone is another one: no act can be undone.
        String want = Poles.state(begun()).replace("4 2 1 1 0 0 2 0 2 3 rule", "4 2 1 1 0 0 2 0 2 0 rule");
        due("all is as in the image", want, Poles.state(kept));
        says(41, "BACK: they are so again (no ACT can be UNDONE then).");
        due("acts", 0, kept.count(9));
        due("undo", NONE, kept.undo());
        kept.beat();
        due("acts from then on", 0, kept.undo());
        due("as in the image", 2, kept.count(6));
        says(41, "BACK: the BEAT. NONE: no IMAGE of this GREEN.");
        due("no image", NONE, Poles.ring(3, "").back());
        due("no green", NONE, new RibbonPole().back());
        due("a green anew", 4, Check.text(kept, 0, "d;d;d;d"));
        due("no image of it", NONE, kept.back());
        kept.beat();
        due("an image of it", 1, kept.image());
        due("back to it", 1, kept.back());
    }
}
