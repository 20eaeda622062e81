import java.util.NoSuchElementException;

/** Each promise by its number: ordinary calls, the edges that the document names, wrong calls. Worked out by hand. */
public final class PromiseTest {
    private static final int NONE = RibbonPole.NONE;
    private static final int HIDDEN = RibbonPole.HIDDEN;

    /** Four dancers with long ribbons: colours 1 2 3 3, lengths 99, sure 5 7 5 0. */
    private static final String LONG = "st2k9w0;dc1l99;dc2l99s7;dc3l99;dc3l99s0";

    /** Four dancers with ribbons of 9 5 30 30. */
    private static final String SHORT = "st2k9;dl9;dl5;d;d";

    private PromiseTest() {
    }

    public static void main(String[] args) {
        newObject();
        feedAndEnd();
        faultAndText();
        greensAnew();
        rule();
        dancer();
        stands();
        law();
        lawLetters();
        lawNumbers();
        step();
        plait();
        cross();
        undoing();
        beat();
        dance();
        down();
        longer();
        give();
        years();
        status();
        undo();
        log();
        takes();
        bound();
        letOut();
        behindAndRounds();
        knotAndSame();
        nearest();
        times();
        seenFitsAsk();
        stripe();
        gameAndRests();
        odds();
        shares();
        most();
        imageAndBack();
        count();
        Check.finish();
    }

    private static void due(String call, long want, long got) {
        Check.due(call, want, got);
    }

    private static RibbonPole green(String text) {
        RibbonPole pole = new RibbonPole();
        due("text(0) of " + text, text.split("d").length - 1 + (text.endsWith("d") ? 1 : 0), Check.text(pole, 0, text));
        return pole;
    }

    private static RibbonPole figures(String green, String... figures) {
        RibbonPole pole = green(green);
        for (int i = 0; i < figures.length; i++) {
            due("text(2) of " + figures[i], i, Check.text(pole, 2, figures[i]));
        }
        return pole;
    }

    private static RibbonPole withLaw(String green, String law) {
        RibbonPole pole = green(green);
        due("text(1) of " + law, 0, Check.text(pole, 1, law));
        Check.due("law(0)", true, pole.law(0));
        return pole;
    }

    private static void beats(RibbonPole pole, int n) {
        for (int i = 0; i < n; i++) {
            pole.beat();
        }
    }

    /** Forty crossings: two dancers round one another at 0, another two at 2. */
    private static RibbonPole full() {
        RibbonPole pole = withLaw(LONG, "y:1");
        for (int i = 0; i < 20; i++) {
            due("cross", 0, pole.cross(0, true));
            due("cross", 0, pole.cross(2, false));
        }
        return pole;
    }

    // ---- 1 to 5

    private static void newObject() {
        RibbonPole pole = new RibbonPole();
        int[] want = {0, 0, 0, 0, 0, NONE, 0, 0, 0, 0};
        for (int what = 0; what < 10; what++) {
            due("count(" + what + ") at first", want[what], pole.count(what));
        }
        due("rule at first", NONE, pole.rule(0));
        for (int what = 0; what < 5; what++) {
            due("status at first", 0, pole.status(what));
        }
        due("image at first", NONE, pole.image());
        due("most at first", HIDDEN, pole.most(0));
        due("NONE", -1, NONE);
        due("HIDDEN", -1000000, HIDDEN);
    }

    private static void feedAndEnd() {
        RibbonPole pole = new RibbonPole();
        due("feed of nothing", 0, pole.feed(0, 0, 0, 0, 0));
        due("feed in order", 5, pole.feed(0x64003B64, 0x3B, 0, 0, 0x64));
        due("d;d;d", -1, pole.fault(0));
        Check.due("end(6)", false, pole.end(6));
        Check.due("end(-1)", false, pole.end(-1));
        due("bytes", 5, pole.count(4));
        Check.due("end(5)", true, pole.end(5));
        Check.due("end(3)", true, pole.end(3));
        due("bytes", 3, pole.count(4));
        due("d;d", 3, pole.fault(0));
        due("feed goes on", 5, pole.feed(0, 0x3B64, 0, 0, 0));
        due("d;d;d again", -1, pole.fault(0));
        pole.end(0);
        for (int i = 1; i <= 12; i++) {
            due("feed", 20 * i, pole.feed(-1, -1, -1, -1, -1));
        }
        due("feed beyond 240", NONE, pole.feed(1, 0, 0, 0, 0));
        due("feed of nothing at 240", 240, pole.feed(0, 0, 0, 0, 0));
        Check.due("end(239)", true, pole.end(239));
        due("feed of two at 239", NONE, pole.feed(0x101, 0, 0, 0, 0));
        due("bytes", 239, pole.count(4));
        due("feed of one at 239", 240, pole.feed(0, 0, 0, 0, 0x80000000));
    }

    private static void faultAndText() {
        RibbonPole pole = new RibbonPole();
        due("fault(-1)", -2, pole.fault(-1));
        due("fault(3)", -2, pole.fault(3));
        due("text(3)", NONE, pole.text(3));
        due("text(-1)", NONE, pole.text(-1));
        Check.tape(pole, "d;d;dx");
        due("fault", 5, pole.fault(0));
        due("text of a fault", NONE, pole.text(0));
        due("the tape stays", 6, pole.count(4));
        pole.end(5);
        due("text", 3, pole.text(0));
        due("the tape is empty", 0, pole.count(4));
        for (int i = 0; i < 4; i++) {
            Check.tape(pole, "y:1");
            due("a law", i, pole.text(1));
            due("the tape is empty", 0, pole.count(4));
        }
        Check.tape(pole, "y:1");
        due("a fifth law has no fault", NONE, pole.fault(1));
        due("a fifth law", NONE, pole.text(1));
        due("the tape stays", 3, pole.count(4));
        for (int i = 0; i < 6; i++) {
            Check.tape(pole, "w");
            due("a figure", i, pole.text(2));
            due("the tape is empty", 0, pole.count(4));
        }
        Check.tape(pole, "w");
        due("a seventh figure", NONE, pole.text(2));
        due("the tape stays", 1, pole.count(4));
        due("laws", 4, pole.count(2));
        due("figures", 6, pole.count(3));
        due("no status", 0, pole.status(0) + pole.status(1) + pole.status(2) + pole.status(3) + pole.status(4));
    }

    private static void greensAnew() {
        RibbonPole pole = figures(LONG, "o0;o1");
        Check.text(pole, 1, "y:3");
        pole.law(0);
        pole.cross(9, true);
        pole.dance(0);
        pole.give(5);
        pole.longer(3, 9);
        pole.seen(0, 0, 1, true);
        pole.image();
        due("a green anew", 3, Check.text(pole, 0, "d;d;d"));
        int[] want = {3, 0, 1, 1, 0, 0, 0, 0, 0, 0};
        for (int what = 0; what < 10; what++) {
            due("count(" + what + ") behind a green anew", want[what], pole.count(what));
        }
        due("status stays", 1, pole.status(1));
        due("no image", NONE, pole.back());
        due("nothing to undo", NONE, pole.undo());
        due("no log", NONE, pole.log(0, 0));
        due("coins", 20, pole.rule(1));
        due("order", 12, pole.most(5));
        due("length", 30, pole.dancer(2, 1));
        due("the law holds on", 3, pole.takes(0, true));
        due("no such dancer now", NONE, pole.letOut(3));
    }

    // ---- 6 to 11

    private static void rule() {
        RibbonPole pole = green("d;st9k0w1;d;d");
        due("tight", 9, pole.rule(0));
        due("coins", 0, pole.rule(1));
        due("wind", 1, pole.rule(2));
        due("rule(3)", NONE, pole.rule(3));
        due("rule(-1)", NONE, pole.rule(-1));
        pole.give(7);
        due("coins now", 7, pole.rule(1));
        pole = green("d;d;d");
        due("tight without", 2, pole.rule(0));
        due("coins without", 20, pole.rule(1));
        due("wind without", 2, pole.rule(2));
    }

    private static boolean isNoDancer(RibbonPole pole, int dancer, int what) {
        try {
            pole.dancer(dancer, what);
            return false;
        } catch (NoSuchElementException e) {
            return true;
        }
    }

    private static void dancer() {
        RibbonPole pole = green("d;dc7l99s9;d");
        int[][] want = {{0, 30, 5, 0, 30, 0}, {7, 99, 9, 1, 99, 0}, {0, 30, 5, 2, 30, 0}};
        for (int d = 0; d < 3; d++) {
            for (int what = 0; what < 6; what++) {
                due("dancer(" + d + ", " + what + ")", want[d][what], pole.dancer(d, what));
            }
        }
        pole.longer(0, 20);
        pole.cross(2, true);
        due("length now", 50, pole.dancer(0, 1));
        due("place", 2, pole.dancer(0, 3));
        due("left", 48, pole.dancer(0, 4));
        due("crossings", 1, pole.dancer(0, 5));
        due("left of the other", 28, pole.dancer(2, 4));
        due("place of the other", 0, pole.dancer(2, 3));
        Check.due("no dancer 3", true, isNoDancer(pole, 3, 0));
        Check.due("no dancer -1", true, isNoDancer(pole, -1, 0));
        Check.due("no what 6", true, isNoDancer(pole, 0, 6));
        Check.due("no what -1", true, isNoDancer(pole, 0, -1));
        Check.due("no green", true, isNoDancer(new RibbonPole(), 0, 0));
    }

    private static void stands() {
        RibbonPole pole = green("d;d;d");
        pole.cross(0, true);
        pole.cross(1, true);
        due("stands(0)", 1, pole.stands(0));
        due("stands(1)", 2, pole.stands(1));
        due("stands(2)", 0, pole.stands(2));
        due("stands(3)", NONE, pole.stands(3));
        due("stands(-1)", NONE, pole.stands(-1));
    }

    private static void law() {
        RibbonPole pole = green(LONG);
        Check.due("law(NONE)", true, pole.law(NONE));
        Check.due("law(0) that is not there", false, pole.law(0));
        Check.text(pole, 1, "y:4");
        Check.text(pole, 1, "y:5");
        due("none holds at first", 2, pole.takes(0, true));
        Check.due("law(1)", true, pole.law(1));
        due("takes by 1", 5, pole.takes(0, true));
        Check.due("law(2)", false, pole.law(2));
        Check.due("law(-2)", false, pole.law(-2));
        due("still 1", 1, pole.count(5));
        Check.due("law(NONE)", true, pole.law(NONE));
        due("takes by none", 2, pole.takes(0, true));
        due("none holds", NONE, pole.count(5));
    }

    private static int worth(String green, String law) {
        return withLaw(green, law).takes(0, true);
    }

    private static void lawLetters() {
        due("t", 6, worth("st6;d;d;d", "y:t"));
        due("s", 7, worth("ds7;ds3;d", "y:s"));
        due("u", 3, worth("ds7;ds3;d", "y:u"));
        RibbonPole pole = withLaw("ds7;ds3;d", "y:s");
        due("s of u", 3, pole.takes(0, false));
        pole = withLaw(LONG, "y:n+1");
        due("n at first", 1, pole.takes(0, true));
        pole.cross(0, true);
        pole.cross(2, true);
        due("n behind two", 3, pole.takes(0, true));
        pole = withLaw(LONG, "y:h");
        pole.cross(0, true);
        pole.cross(0, true);
        due("h of one that touches none", 1, pole.takes(2, true));
        due("h of one that touches", 3, pole.takes(1, true));
        due("h over the ring's end", 3, pole.takes(3, true));
        due("h of one that would undo", 3, pole.takes(0, false));
        pole = withLaw(LONG, "y:b");
        beats(pole, 3);
        due("b is as ahead of it", 0, pole.cross(0, true));
        due("took 3", 3, pole.plait(0, 3));
        beats(pole, 100);
        due("b modulo 100", 4, pole.takes(0, true));
    }

    private static void lawNumbers() {
        String green = "d;d;d";
        due("held within 9", 9, worth(green, "y:9999"));
        due("held within 1", 1, worth(green, "y:0-5"));
        due("signs from the left", 4, worth(green, "y:9-4-1"));
        due("* ahead of +", 7, worth(green, "y:1+2*3"));
        due("[ first", 9, worth(green, "y:[1+2]*3"));
        due("/ cuts towards 0", 2, worth(green, "y:5-7/2"));
        due("/ of below 0 cuts towards 0", 2, worth(green, "y:5+[0-7]/2"));
        due("/ by 0", 4, worth(green, "y:4+7/0"));
        due("* and / from the left", 8, worth(green, "y:4*6/3"));
        due("/ and * from the left", 3, worth(green, "y:5/3*3"));
        due("within 1000000 behind each sign", 7, worth(green, "y:9999*9999-9999*100-93"));
        due("within -1000000 behind each sign", 5, worth(green, "y:[0-9999]*9999+9999*100+105"));
        due("the first that holds", 3, worth(green, "y:t=1?2;y:t=2?3;y:4"));
        due("none holds", 1, worth(green, "y:t=1?2"));
        due("& ahead of |", 2, worth(green, "y:t=2|t=2&t=1?2;y:3"));
        due("& ahead of | the other way", 2, worth(green, "y:t=1&t=1|t=2?2;y:3"));
        due("( first", 3, worth(green, "y:(t=2|t=2)&t=1?2;y:3"));
        due("! of one unit", 3, worth(green, "y:!t=2&t=1?2;y:3"));
        due("! ahead of &", 3, worth(green, "y:!t=1&t=1?2;y:3"));
        due("! of ( )", 2, worth(green, "y:!(t=1&t=1)?2;y:3"));
        due("!!", 2, worth(green, "y:!!t=2?2;y:3"));
        due("<", 2, worth(green, "y:1<t?2;y:3"));
        due("< of alike", 3, worth(green, "y:2<t?2;y:3"));
        due(">", 2, worth(green, "y:3>t?2;y:3"));
        due("> of alike", 3, worth(green, "y:2>t?2;y:3"));
    }

    private static void step() {
        RibbonPole pole = figures("d;d;d", "2(o0;3(u9));w");
        due("how many", 9, pole.step(0, NONE));
        int[] want = {0, 19, 19, 19, 0, 19, 19, 19, 20, NONE};
        for (int i = 0; i < 10; i++) {
            due("step(0, " + i + ")", want[i], pole.step(0, i));
        }
        due("step(0, -2)", NONE, pole.step(0, -2));
        due("step(1, NONE)", NONE, pole.step(1, NONE));
        due("step(-1, 0)", NONE, pole.step(-1, 0));
        RibbonPole bare = new RibbonPole();
        Check.text(bare, 2, "6(8(u5))");
        due("48 steps without a green", 48, bare.step(0, NONE));
        due("the last step", 11, bare.step(0, 47));
    }

    private static void plait() {
        RibbonPole pole = green(LONG);
        pole.cross(2, true);
        pole.cross(0, false);
        pole.cross(1, true);
        pole.cross(0, true);
        // They came as 4 1 2 0; 1 is told ahead of 4, then 2, then 0.
        int[][] want = {{1, 1, 0, 2, 1}, {4, 2, 3, 2, 1}, {2, 0, 3, 2, 2}, {0, 1, 3, 2, 3}};
        for (int i = 0; i < 4; i++) {
            for (int what = 0; what < 5; what++) {
                due("plait(" + i + ", " + what + ")", want[i][what], pole.plait(i, what));
            }
        }
        due("plait(4, 0)", NONE, pole.plait(4, 0));
        due("plait(-1, 0)", NONE, pole.plait(-1, 0));
        due("plait(0, 5)", NONE, pole.plait(0, 5));
        due("plait(0, -1)", NONE, pole.plait(0, -1));
        pole = green("d;d;d;d;d;d");
        pole.cross(5, true);
        pole.cross(0, true);
        pole.cross(3, true);
        // 0 touches 5 round the ring's end, so it waits for it; 3 touches neither.
        due("first", 6, pole.plait(0, 0));
        due("second", 10, pole.plait(1, 0));
        due("third", 0, pole.plait(2, 0));
        due("its layer", 2, pole.plait(2, 4));
    }

    // ---- 12 to 21

    private static void cross() {
        RibbonPole pole = green(SHORT);
        due("cross(4)", NONE, pole.cross(4, true));
        due("cross(-1)", NONE, pole.cross(-1, true));
        due("status(1)", 2, pole.status(1));
        due("cross", 0, pole.cross(0, true));
        due("cross", 0, pole.cross(0, true));
        due("a ribbon with 1 left", NONE, pole.cross(0, true));
        due("status(2)", 1, pole.status(2));
        due("nothing came of it", 2, pole.count(6));
        due("it undoes", 1, pole.cross(0, false));
        due("a coin", 10, pole.rule(1));
        due("it has back", 3, pole.dancer(1, 4));
        due("alike the ribbon is enough", 0, withLaw("dl5;dl5;dl5", "y:5").cross(0, true));
        pole = full();
        due("forty", 40, pole.count(1));
        due("full", NONE, pole.cross(0, true));
        due("status(3)", 1, pole.status(3));
        due("it undoes though full", 1, pole.cross(2, true));
        due("and there is room", 0, pole.cross(2, false));
        pole.law(NONE);
        Check.text(pole, 1, "y:9");
        pole.cross(0, true);
        due("full again", 2, pole.status(3));
        RibbonPole late = green(SHORT);
        beats(late, 999);
        due("beyond", NONE, late.cross(0, true));
        due("status(4)", 1, late.status(4));
        RibbonPole shortAndLate = withLaw(SHORT, "y:9");
        beats(shortAndLate, 999);
        due("short and beyond", NONE, shortAndLate.cross(0, true));
        due("the first of both", 1, shortAndLate.status(2));
        due("not the last", 0, shortAndLate.status(4));
        due("no such place and beyond", NONE, shortAndLate.cross(9, true));
        due("status(1)", 1, shortAndLate.status(1));
        RibbonPole fullAndShort = withLaw(LONG.replace("l99", "l20"), "y:1");
        for (int i = 0; i < 20; i++) {
            fullAndShort.cross(0, true);
            fullAndShort.cross(2, true);
        }
        due("forty", 40, fullAndShort.count(1));
        due("full and short", NONE, fullAndShort.cross(0, true));
        due("short is told", 1, fullAndShort.status(2));
        due("full is not", 0, fullAndShort.status(3));
    }

    private static void undoing() {
        RibbonPole pole = green("d;d;d;d;d");
        pole.cross(0, true);
        pole.cross(2, true);
        pole.cross(3, false);
        due("others between do not touch", 1, pole.cross(0, false));
        due("two are left", 2, pole.count(1));
        due("one behind touches", 0, pole.cross(2, false));
        due("three", 3, pole.count(1));
        due("the same way undoes nothing", 0, pole.cross(2, false));
        due("the latest is undone", 1, pole.cross(2, true));
        pole = green("d;d;d;d;d");
        pole.cross(4, true);
        pole.cross(0, true);
        due("round the ring's end they touch", 0, pole.cross(4, false));
        pole = green("d;d;d");
        pole.cross(0, true);
        pole.cross(2, true);
        due("of three all touch", 0, pole.cross(0, false));
        pole = withLaw(LONG, "y:n+1");
        pole.cross(0, true);
        pole.cross(2, true);
        due("what it took", 97, pole.dancer(2, 4));
        due("undone", 1, pole.cross(0, false));
        due("has back what it took", 99, pole.dancer(0, 4));
        due("the other too", 99, pole.dancer(1, 4));
        due("not those of others", 97, pole.dancer(3, 4));
        due("they stand as ahead", 132, pole.most(5));
    }

    private static void beat() {
        RibbonPole pole = new RibbonPole();
        due("no green", NONE, pole.beat());
        due("status(0)", 1, pole.status(0));
        pole = green("d;d;d");
        for (int i = 1; i <= 999; i++) {
            due("beat", i, pole.beat());
        }
        due("beyond", NONE, pole.beat());
        due("status(4)", 1, pole.status(4));
        due("999", 999, pole.count(6));
        due("an act", 40, pole.count(9));
        due("its letter", 20, pole.log(0, 0));
    }

    private static void dance() {
        RibbonPole pole = figures(SHORT, "o0;o9;w;u0", "9(o0)", "w;w");
        due("dance(0)", 4, pole.dance(0));
        due("beat", 4, pole.count(6));
        due("acts", 4, pole.count(9));
        due("the last undid", 1, pole.log(0, 1));
        due("a place that is not there", 20, pole.log(2, 0));
        due("a coin", 10, pole.rule(1));
        due("up to one that can't be", 2, pole.dance(1));
        due("none of it", 0, pole.dance(1));
        due("beat", 6, pole.count(6));
        due("that is no refusal", 0, pole.status(2));
        due("no such figure", NONE, pole.dance(3));
        due("no such figure", NONE, pole.dance(-1));
        due("status(0)", 2, pole.status(0));
        beats(pole, 992);
        due("998", 998, pole.count(6));
        due("up to the last beat", 1, pole.dance(2));
        due("no status", 0, pole.status(4));
        due("beyond", NONE, pole.dance(2));
        due("beyond, though none could be", NONE, pole.dance(1));
        due("status(4)", 2, pole.status(4));
        RibbonPole bare = new RibbonPole();
        Check.text(bare, 2, "w");
        due("no green", NONE, bare.dance(0));
        due("status(0)", 1, bare.status(0));
    }

    private static void down() {
        RibbonPole pole = green(LONG);
        due("no crossing", NONE, pole.down(1));
        due("status(2)", 1, pole.status(2));
        due("out of bounds first", NONE, pole.down(0));
        due("out of bounds", NONE, pole.down(10));
        due("status(1)", 2, pole.status(1));
        pole.cross(0, true);
        pole.cross(2, false);
        pole.cross(1, true);
        pole.cross(1, true);
        due("down(2)", 2, pole.down(2));
        due("its letter", 3, pole.log(0, 0));
        due("it undid", 1, pole.log(0, 1));
        due("coins", 11, pole.rule(1));
        due("two are left", 2, pole.count(1));
        due("up to the end of the plait", 2, pole.down(9));
        due("the highest letter first", 4, pole.log(1, 0));
        due("the other behind it", 1, pole.log(0, 0));
        due("as at first", 123, pole.most(5));
        due("beats", 8, pole.count(6));
        due("acts", 8, pole.count(9));
        pole = green(LONG);
        pole.cross(0, true);
        pole.cross(0, true);
        beats(pole, 996);
        due("up to the last beat", 1, pole.down(2));
        due("beyond", NONE, pole.down(2));
        due("status(4)", 1, pole.status(4));
        due("no green", NONE, new RibbonPole().down(1));
    }

    private static void longer() {
        RibbonPole pole = green("sk30;dl79;dl90;d");
        due("longer", 99, pole.longer(0, 20));
        due("coins", 10, pole.rule(1));
        due("left", 99, pole.dancer(0, 4));
        due("above 99", NONE, pole.longer(1, 10));
        due("too few coins", NONE, pole.longer(2, 11));
        due("status(3)", 2, pole.status(3));
        due("all coins", 40, pole.longer(2, 10));
        due("no coin", 0, pole.rule(1));
        due("out of bounds", NONE, pole.longer(2, 0));
        due("out of bounds", NONE, pole.longer(2, 21));
        due("status(1)", 2, pole.status(1));
        due("no such dancer", NONE, pole.longer(3, 0));
        due("no such dancer", NONE, pole.longer(-1, 1));
        due("status(0)", 2, pole.status(0));
        due("no beat", 0, pole.count(6));
        due("acts", 2, pole.count(9));
    }

    private static void give() {
        RibbonPole pole = green("sk0;d;d;d");
        due("out of bounds", NONE, pole.give(0));
        due("out of bounds", NONE, pole.give(51));
        for (int i = 1; i < 20; i++) {
            due("give", 50 * i, pole.give(50));
        }
        due("above 999", NONE, pole.give(50));
        due("status(1)", 3, pole.status(1));
        due("give", 999, pole.give(49));
        due("above 999", NONE, pole.give(1));
        due("acts", 20, pole.count(9));
        pole.cross(0, true);
        due("it undoes", 1, pole.cross(0, false));
        due("999 at most", 999, pole.rule(1));
        due("no green", NONE, new RibbonPole().give(1));
    }

    private static void years() {
        RibbonPole pole = green("sw0;dl99;dl99;dl99;dl99");
        due("years", 5, pole.years(5, 1));
        long x = 1;
        for (int i = 4; i >= 0; i--) {
            x = x * 6364136223846793005L + 1442695040888963407L;
            long letter = 2 * ((x >>> 33) % 4);
            x = x * 6364136223846793005L + 1442695040888963407L;
            letter += (x >>> 33) % 2;
            x = x * 6364136223846793005L + 1442695040888963407L;
            due("letter by the draws", letter, pole.log(i, 0));
        }
        due("each beat is an act", 5, pole.count(9));
        due("out of bounds", NONE, pole.years(0, 1));
        due("out of bounds", NONE, pole.years(61, 1));
        due("no green", NONE, new RibbonPole().years(1, 1));
        for (int i = 0; i < 16; i++) {
            due("years", 65 + 60 * i, pole.years(60, -i));
        }
        due("965", 965, pole.count(6));
        due("beyond 999", NONE, pole.years(35, 3));
        due("nothing came of it", 965, pole.count(6));
        due("up to 999", 999, pole.years(34, 3));
        due("no status", 0, pole.status(0) + pole.status(1) + pole.status(2) + pole.status(3) + pole.status(4));
        wind();
    }

    /** With ribbons of 1 and a crossing that takes 1, all ends by ribbons too short: beats without anything. */
    private static void wind() {
        RibbonPole calm = green("st1w0;dl1;dl1;dl1");
        calm.years(30, 5);
        due("one crossing at most", 1, calm.count(1));
        due("then nothing or the same undone", 30, calm.count(8));
        RibbonPole windy = green("st1w9k0;dl99;dl99;dl99");
        windy.years(20, 5);
        int undone = 0;
        for (int i = 0; i < 20; i++) {
            undone += windy.log(i, 1);
        }
        due("coins for beats alone", undone, windy.rule(1));
        due("the log has beats alone", 20, windy.count(8));
        due("the log tells what is ahead of the wind", 1, windy.log(19, 2));
        for (int i = 19; i >= 0; i--) {
            due("undo", i, windy.undo());
        }
        due("all back", 12, windy.most(5));
        due("no crossing", 0, windy.count(1));
    }

    private static void status() {
        RibbonPole pole = green("d;d;d");
        due("status(-1)", NONE, pole.status(-1));
        due("status(5)", NONE, pole.status(5));
        pole.cross(3, true);
        pole.give(1);
        pole.undo();
        due("not undone", 1, pole.status(1));
        pole.image();
        pole.cross(3, true);
        pole.back();
        due("not in the image", 2, pole.status(1));
    }

    private static void undo() {
        RibbonPole pole = figures(LONG, "3(o0)");
        due("none", NONE, pole.undo());
        pole.cross(0, true);
        pole.cross(0, false);
        pole.give(5);
        pole.longer(0, 0);
        pole.dance(0);
        pole.down(2);
        due("acts", 8, pole.count(9));
        due("undo", 7, pole.undo());
        due("crossings", 2, pole.count(1));
        pole.undo();
        due("crossings", 3, pole.count(1));
        pole.undo();
        due("each step is an act", 2, pole.count(1));
        pole.undo();
        pole.undo();
        due("coins", 15, pole.rule(1));
        pole.undo();
        due("coins", 10, pole.rule(1));
        due("undo", 1, pole.undo());
        due("coins", 9, pole.rule(1));
        due("log", 1, pole.count(8));
        due("what was undone is back", 1, pole.count(1));
        due("undo", 0, pole.undo());
        due("beat", 0, pole.count(6));
        due("none", NONE, pole.undo());
        beats(pole, 45);
        due("forty at most", 40, pole.count(9));
        for (int i = 39; i >= 0; i--) {
            due("undo", i, pole.undo());
        }
        due("none", NONE, pole.undo());
        due("beat", 5, pole.count(6));
    }

    private static void log() {
        RibbonPole pole = green(LONG);
        due("none", NONE, pole.log(0, 0));
        for (int i = 0; i < 35; i++) {
            pole.cross(1, true);
            pole.cross(1, false);
        }
        due("sixty at most", 60, pole.count(8));
        due("letter", 3, pole.log(0, 0));
        due("undid", 1, pole.log(0, 1));
        due("crossings", 0, pole.log(0, 2));
        due("letter", 2, pole.log(59, 0));
        due("undid", 0, pole.log(59, 1));
        due("crossings", 1, pole.log(59, 2));
        due("no 60", NONE, pole.log(60, 0));
        due("no -1", NONE, pole.log(-1, 0));
        due("no what", NONE, pole.log(0, 3));
        due("no what", NONE, pole.log(0, -1));
        for (int i = 0; i < 39; i++) {
            pole.undo();
        }
        due("31 beats are left", 31, pole.count(8));
        pole = green("d;d;d");
        pole.cross(2, false);
        beats(pole, 60);
        due("the oldest is gone", 20, pole.log(59, 0));
        pole.undo();
        due("and is back", 5, pole.log(59, 0));
    }

    // ---- 22 to 30

    private static void takes() {
        RibbonPole pole = withLaw(SHORT, "y:n=2?7;y:3");
        due("takes", 3, pole.takes(0, true));
        due("no such place", NONE, pole.takes(4, true));
        due("no such place", NONE, pole.takes(-1, false));
        pole.cross(0, true);
        due("whether it would undo or not", 3, pole.takes(0, false));
        pole.cross(2, true);
        due("whether it could or not", 7, pole.takes(0, true));
        due("of a full plait", 1, full().takes(0, true));
    }

    private static void bound() {
        RibbonPole pole = green(LONG);
        pole.cross(0, true);
        pole.cross(0, true);
        due("0 over 1, then 1 over 0", 0, pole.bound(0, 1));
        pole.cross(0, true);
        due("0 over 1 again", 1, pole.bound(0, 1));
        due("the other way", -1, pole.bound(1, 0));
        due("not of both", 0, pole.bound(0, 2));
        due("alike", HIDDEN, pole.bound(1, 1));
        due("no such", HIDDEN, pole.bound(0, 4));
        due("no such", HIDDEN, pole.bound(-1, 0));
    }

    private static void letOut() {
        RibbonPole pole = green("d;d;d;d;d;d;d");
        pole.cross(0, true);
        pole.cross(3, true);
        pole.cross(1, true);
        pole.cross(2, true);
        pole.cross(5, true);
        due("0: his own three and none else", 3, pole.letOut(0));
        due("1: his own and what hangs on it", 3, pole.letOut(1));
        due("2", 2, pole.letOut(2));
        due("3: what touches his own", 2, pole.letOut(3));
        due("5: his own", 1, pole.letOut(5));
        due("no such", NONE, pole.letOut(7));
        due("no such", NONE, pole.letOut(-1));
        due("a free one", 0, green("d;d;d").letOut(0));
    }

    private static void behindAndRounds() {
        RibbonPole pole = figures("d;d;d;d;d;d;d", "o0;o1;o2;o4;u5", "o0;o1;o2;o3;o4;o5;o6", "w;o8", "o6");
        due("behind none", 0, pole.behind(0, 0, 0));
        due("behind once", 3, pole.behind(0, 1, 0));
        due("behind twice", 2, pole.behind(0, 2, 0));
        due("behind 99 times", 1, pole.behind(0, 99, 0));
        due("5 behind once", 4, pole.behind(0, 1, 5));
        due("4 and 3 make 12", 12, pole.rounds(0));
        due("all round the ring", 6, pole.rounds(1));
        due("nothing", 1, pole.rounds(2));
        due("at the ring's end", 2, pole.rounds(3));
        due("the last to the first", 0, pole.behind(3, 1, 6));
        pole.cross(0, true);
        due("from as it is now", 0, pole.behind(0, 1, 0));
        due("rounds now", 12, pole.rounds(0));
        due("no such figure", NONE, pole.behind(4, 1, 0));
        due("no such dancer", NONE, pole.behind(0, 1, 7));
        due("out of bounds", NONE, pole.behind(0, 100, 0));
        due("out of bounds", NONE, pole.behind(0, -1, 0));
        due("no such figure", NONE, pole.rounds(4));
        due("no such figure", NONE, pole.rounds(-1));
        RibbonPole bare = new RibbonPole();
        Check.text(bare, 2, "o0");
        due("no green", NONE, bare.behind(0, 1, 0));
        due("no green", NONE, bare.rounds(0));
        due("no green", NONE, bare.knot(0));
        due("no green", NONE, bare.same(0, 0));
        due("no green", NONE, bare.times(0));
        due("no green", NONE, bare.odds(0, 0, 0));
    }

    private static void knotAndSame() {
        RibbonPole pole = figures("d;d;d;d;d", "6(8(o0))", "o0;o2;u0;u2", "o0;o2", "o2;w;o0;o7", "o0;o1", "o1;o0");
        due("48 and no ribbon is too short", 48, pole.knot(0));
        due("comes undone", 0, pole.knot(1));
        due("two", 2, pole.knot(2));
        due("what does not touch", 1, pole.same(2, 3));
        due("what touches", 0, pole.same(4, 5));
        due("itself", 1, pole.same(0, 0));
        pole.cross(0, false);
        due("from an empty pole", 2, pole.knot(2));
        due("no such", NONE, pole.knot(6));
        due("no such", NONE, pole.same(0, 6));
        due("no such", NONE, pole.same(-1, 0));
    }

    private static void nearest() {
        RibbonPole pole = green("d;d;d");
        due("as they stand", 0, pole.nearest(12, 0));
        due("no place", NONE, pole.nearest(12, 1));
        due("at the ring's end", 1, pole.nearest(210, 0));
        due("its place", 2, pole.nearest(210, 1));
        due("round", 2, pole.nearest(120, 0));
        due("the lowest of several", 0, pole.nearest(120, 1));
        due("too few", NONE, pole.nearest(1, 0));
        due("twice", NONE, pole.nearest(112, 0));
        due("not there", NONE, pole.nearest(13, 0));
        due("too many", NONE, pole.nearest(1012, 0));
        due("below 0", NONE, pole.nearest(-12, 0));
        due("the lowest number", NONE, pole.nearest(Integer.MIN_VALUE, 0));
        due("no such what", NONE, pole.nearest(12, 2));
        due("no such what", NONE, pole.nearest(12, -1));
        pole.cross(0, true);
        due("from as it is now", 1, pole.nearest(12, 0));
        due("seven turned round", 9, green("d;d;d;d;d;d;d").nearest(6543210, 0));
        due("no green", NONE, new RibbonPole().nearest(12, 0));
    }

    private static void times() {
        RibbonPole pole = figures("st2;dl9;dl9;dl9", "o0", "o0;u0", "w;o5", "9(o0)");
        due("as long as ribbons go", 4, pole.times(0));
        due("ninety-nine at most", 99, pole.times(1));
        due("nothing", 99, pole.times(2));
        due("not in whole", 0, pole.times(3));
        due("no such", NONE, pole.times(4));
        pole.cross(0, false);
        due("from as it is now: it undoes first", 5, pole.times(0));
        due("all stands as ahead", 1, pole.count(1));
        due("the beat too", 1, pole.count(6));
        RibbonPole long40 = figures(LONG, "o0;o2");
        Check.text(long40, 1, "y:1");
        long40.law(0);
        due("up to a full plait", 20, long40.times(0));
        RibbonPole late = figures("dl9;dl9;dl9", "o0;w;u0;w");
        Check.text(late, 1, "y:b=2?9;y:1");
        late.law(0);
        beats(late, 999);
        due("beats go on behind 999", 99, late.times(0));
        late = figures("dl8;dl8;dl8", "o0;w;u0;w");
        Check.text(late, 1, "y:b=7?9;y:1");
        late.law(0);
        beats(late, 999);
        due("modulo 100", 2, late.times(0));
    }

    // ---- 31 to 38

    private static void seenFitsAsk() {
        RibbonPole pole = figures("d;d;d;d", "o0", "o0;o1", "w", "o3");
        due("all fit", 15, pole.fits());
        due("0 behind one: 1 2 0 3", 1, pole.ask(0));
        due("2 behind one: 2 1 2 2, behind two: 2 0 2 2", 1, pole.ask(2));
        due("1 behind one: 0 0 1 1, behind two: 1 2 1 1", 1, pole.ask(1));
        due("seen", 1, pole.seen(0, 2, 1, false));
        due("without one", 13, pole.fits());
        due("seen", 2, pole.seen(1, 1, 2, true));
        due("fits", 13, pole.fits());
        due("1 behind one: 0 1 1", 1, pole.ask(1));
        due("seen", 3, pole.seen(0, 3, 3, true));
        due("one fits", 8, pole.fits());
        pole.cross(1, true);
        due("as told, not as now", 8, pole.fits());
        due("seen", 4, pole.seen(0, 3, 3, false));
        due("nothing fits", 0, pole.fits());
        due("nothing fits", NONE, pole.ask(0));
        due("no such dancer", NONE, pole.seen(4, 0, 1, true));
        due("no such place", NONE, pole.seen(0, 4, 1, true));
        due("out of bounds", NONE, pole.seen(0, 0, 0, true));
        due("out of bounds", NONE, pole.seen(0, 0, 10, true));
        for (int i = 5; i <= 10; i++) {
            due("seen", i, pole.seen(0, 0, 9, true));
        }
        due("there are ten", NONE, pole.seen(0, 0, 9, true));
        due("ten", 10, pole.count(7));
        due("not undone", 0, pole.undo());
        due("ten", 10, pole.count(7));
        due("figures that never part", 1, figures("d;d;d", "w", "o0;u0").ask(0));
        // 0 stands at 1 behind one of each; behind two of the second at 2.
        due("the second time parts them", 2, figures("d;d;d", "o0", "o1;o0;w;o1;o1").ask(0));
        due("no such dancer", NONE, figures("d;d;d", "w").ask(3));
        due("no figures", NONE, green("d;d;d").ask(0));
        due("no figures fit", 0, green("d;d;d").fits());
        due("no green", NONE, new RibbonPole().fits());
    }

    private static void stripe() {
        RibbonPole pole = green(LONG);
        pole.cross(2, false);
        pole.cross(0, true);
        due("stripe(0)", 1, pole.stripe(0));
        due("stripe(1)", 3, pole.stripe(1));
        due("stripe(2)", NONE, pole.stripe(2));
        due("stripe(-1)", NONE, pole.stripe(-1));
    }

    private static void gameAndRests() {
        RibbonPole pole = withLaw(SHORT, "y:s=0?9;y:n=1?5;y:2");
        due("over", 4, pole.game(0, 0, 1, 0));
        due("under", 3, pole.game(0, 0, 1, 1));
        due("the other over", 3, pole.game(0, 1, 0, 0));
        due("the other over", 4, pole.game(0, 1, 0, 1));
        pole.cross(0, true);
        due("it undoes", 4, pole.game(0, 1, 0, 0));
        due("it undoes", 4, pole.game(0, 1, 0, 1));
        due("it can't be", -3, pole.game(0, 0, 1, 0));
        due("it can't be", -3, pole.game(0, 0, 1, 1));
        due("costs more now", 1, pole.game(2, 0, 1, 0));
        due("costs more now", 0, pole.game(2, 0, 1, 1));
        due("both over", -2, pole.game(0, 0, 0, 1));
        due("both under", -1, pole.game(0, 1, 1, 0));
        due("one stays", 0, pole.game(0, 2, 1, 0));
        due("the other stays", 0, pole.game(0, 0, 2, 1));
        due("no such place", HIDDEN, pole.game(-1, 0, 0, 0));
        due("no such place", HIDDEN, pole.game(4, 0, 0, 0));
        due("out of bounds", HIDDEN, pole.game(0, 3, 0, 0));
        due("out of bounds", HIDDEN, pole.game(0, 0, -1, 0));
        due("out of bounds", HIDDEN, pole.game(0, 0, 0, 2));
        due("out of bounds", HIDDEN, pole.game(0, 0, 0, -1));
        // At 0: 01 is -3 for both, 10 is 4 for both; to stay is best against one who goes over as the other can't.
        int[] atNought = {4, 2, 10, 21, 22, NONE};
        for (int i = NONE; i < 5; i++) {
            due("rests(0, " + i + ")", atNought[i + 1], pole.rests(0, i));
        }
        due("rests(0, -2)", NONE, pole.rests(0, -2));
        due("rests(4)", NONE, pole.rests(4, NONE));
        due("rests(-1)", NONE, pole.rests(-1, 0));
        // At 2: 1 for who goes over, 0 for who goes under: to stay is as good as to go under.
        int[] atTwo = {5, 1, 2, 10, 20, 22, NONE};
        for (int i = NONE; i < 6; i++) {
            due("rests(2, " + i + ")", atTwo[i + 1], pole.rests(2, i));
        }
    }

    private static void odds() {
        RibbonPole pole = figures("d;d;d;d", "o0", "o0;u0", "o0;w;o9;o0", "9(w)", "8(o0)");
        due("it comes for sure", 0, pole.odds(0, 30, 0));
        due("it comes for sure", 1000000000, pole.odds(0, 30, 1));
        // 70 * 70 and 30 * 30 of 10000 undo.
        due("two", 580000000, pole.odds(1, 30, 0));
        due("two alike", 420000000, pole.odds(2, 30, 0));
        due("never", 0, pole.odds(2, 0, 1));
        due("always both", 0, pole.odds(2, 100, 1));
        due("all are 2 or fewer", 1000000000, pole.odds(2, 50, 2));
        pole.cross(0, true);
        due("from as it is now: turned it undoes", 300000000, pole.odds(0, 30, 0));
        due("out of bounds", NONE, pole.odds(0, 101, 0));
        due("out of bounds", NONE, pole.odds(0, -1, 0));
        due("out of bounds", NONE, pole.odds(0, 0, 61));
        due("out of bounds", NONE, pole.odds(0, 0, -1));
        due("in bounds", 1000000000, pole.odds(0, 100, 60));
        due("more than 8 steps", NONE, pole.odds(3, 0, 0));
        due("no such", NONE, pole.odds(5, 0, 0));
        RibbonPole full = full();
        Check.text(full, 2, "8(o0)");
        due("beyond forty", 1000000000, full.odds(0, 0, 48));
        due("beyond forty", 0, full.odds(0, 0, 47));
        RibbonPole cut = figures("d;d;d", "8(o0)");
        // Eight times 1 of 100, cut each time: 10^9 10^7 10^5 10^3 10 0; behind it nothing is left to be cut.
        due("all turned", cutParts(), cut.odds(0, 1, 0));
    }

    /** Of eight steps four are turned if nothing is left: all orders of four turned ones, each cut step by step. */
    private static long cutParts() {
        long all = 0;
        for (int turned = 0; turned < 256; turned++) {
            if (Integer.bitCount(turned) != 4) {
                continue;
            }
            long parts = 1000000000;
            for (int i = 0; i < 8; i++) {
                long other = parts / 100;
                parts = (turned >> i & 1) == 1 ? other : parts - other;
            }
            all += parts;
        }
        return all;
    }

    private static void shares() {
        RibbonPole pole = green(LONG);
        due("none", 0, pole.shares(0, 999));
        pole.cross(0, true);
        pole.cross(1, true);
        // 0 is in both, 1 and 2 in one each: 4 2 2 of 8.
        due("0", 499, pole.shares(0, 999));
        due("1", 249, pole.shares(1, 999));
        due("3", 0, pole.shares(3, 999));
        due("of 0", 0, pole.shares(0, 0));
        due("out of bounds", NONE, pole.shares(0, 1000));
        due("out of bounds", NONE, pole.shares(0, -1));
        due("no such", NONE, pole.shares(4, 1));
        due("no such", NONE, pole.shares(-1, 1));
    }

    // ---- 39 to 42

    private static void most() {
        RibbonPole pole = green("dc1l20s3;dc2l9s9;dc1l20s9;dc4l9;dc5l9s0");
        int[] first = {0, 1, 0, 1, 0, 1234, 0, 0, 31, 0, 0, 0, 5};
        for (int what = 0; what < 13; what++) {
            due("most(" + what + ") at first", first[what], pole.most(what));
        }
        pole.cross(0, true);
        pole.cross(3, false);
        pole.cross(0, true);
        pole.cross(1, false);
        // They stand 0 2 1 4 3; letters 0 7 0 3; over: 0, 4, 1, 2 of 2 and 1.
        int[] want = {2, 1, 1, 1, 3, 2143, 1 << 3 | 1 << 7, 1 << 0 | 1 << 7, 0, 3, 0, 16, 1};
        for (int what = 0; what < 13; what++) {
            due("most(" + what + ")", want[what], pole.most(what));
        }
        due("most(13)", HIDDEN, pole.most(13));
        due("most(-1)", HIDDEN, pole.most(-1));
        pole = green("dc1;d;d;d;d;d;dc3");
        pole.cross(6, false);
        due("order of seven", 6123450, pole.most(5));
        due("loose at the ring's end", 1 << 13, pole.most(6));
        due("free", 0x3e, pole.most(8));
        due("twist", -1, pole.most(10));
        due("home", 5, pole.most(12));
    }

    private static void imageAndBack() {
        RibbonPole pole = green(LONG);
        due("no image", NONE, pole.back());
        pole.cross(0, true);
        pole.longer(0, 0);
        due("image", 1, pole.image());
        pole.cross(0, false);
        pole.give(9);
        beats(pole, 70);
        due("back", 1, pole.back());
        due("no act can be undone", NONE, pole.undo());
        due("the plait", 1, pole.count(1));
        due("coins", 9, pole.rule(1));
        due("order", 1023, pole.most(5));
        due("log", 1, pole.count(8));
        due("log", 0, pole.log(0, 0));
        pole.cross(2, true);
        due("back once more", 1, pole.back());
        due("crossings", 1, pole.count(1));
        pole.down(1);
        due("another image", 2, pole.image());
        due("undo goes ahead of the image", 0, pole.undo());
        due("back", 2, pole.back());
        due("instead of the one ahead", 0, pole.count(1));
        RibbonPole lengths = green("sk20;dl30;d;d");
        lengths.image();
        lengths.longer(0, 5);
        lengths.back();
        due("lengths", 30, lengths.dancer(0, 1));
        due("coins", 20, lengths.rule(1));
        due("no green", NONE, new RibbonPole().image());
    }

    private static void count() {
        RibbonPole pole = figures("d;d;d;d;d", "w", "w");
        Check.text(pole, 1, "y:1");
        pole.law(0);
        Check.tape(pole, "abc");
        pole.cross(0, true);
        pole.cross(0, true);
        pole.cross(0, true);
        pole.beat();
        pole.give(1);
        pole.seen(0, 0, 1, true);
        int[] want = {5, 3, 1, 2, 3, 0, 4, 1, 4, 5};
        for (int what = 0; what < 10; what++) {
            due("count(" + what + ")", want[what], pole.count(what));
        }
        due("count(10)", HIDDEN, pole.count(10));
        due("count(-1)", HIDDEN, pole.count(-1));
    }
}
