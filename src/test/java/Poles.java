import java.util.NoSuchElementException;

/** Poles at a boundary, which several tests need; each is made with few calls, as an object answers 512 at most. */
final class Poles {
    /** Four dancers with long ribbons: colours 1 2 3 3, lengths 99, sure 5 7 5 0; no wind, nine coins. */
    static final String LONG = "st2k9w0;dc1l99;dc2l99s7;dc3l99;dc3l99s0";

    private static final int STEPS = 48;

    private Poles() {
    }

    static RibbonPole green(String text) {
        RibbonPole pole = new RibbonPole();
        if (Check.text(pole, 0, text) < 3) {
            throw new IllegalStateException("no green: " + text);
        }
        return pole;
    }

    /** A ring of so many dancers, each told as given. */
    static RibbonPole ring(int dancers, String dancer) {
        return green("d" + dancer + (";d" + dancer).repeat(dancers - 1));
    }

    static RibbonPole figures(RibbonPole pole, String... figures) {
        for (String figure : figures) {
            if (Check.text(pole, 2, figure) < 0) {
                throw new IllegalStateException("no figure: " + figure);
            }
        }
        return pole;
    }

    static RibbonPole holding(RibbonPole pole, String law) {
        if (!pole.law(Check.text(pole, 1, law))) {
            throw new IllegalStateException("no law: " + law);
        }
        return pole;
    }

    /** Beats without anything, up to the one given; it tells a figure of 48 of them. */
    static RibbonPole late(RibbonPole pole, int beat) {
        int waits = Check.text(pole, 2, "6(8(w))");
        for (int i = pole.count(6); i + STEPS <= beat; i += STEPS) {
            pole.dance(waits);
        }
        for (int i = pole.count(6); i < beat; i++) {
            pole.beat();
        }
        return pole;
    }

    /** Forty crossings that take 1 each: two dancers round one another at 0, another two at 2. */
    static RibbonPole full(String green) {
        RibbonPole pole = figures(holding(green(green), "y:1"), "5(8(o0))", "5(4(o0;u2))");
        if (pole.dance(1) != 40) {
            throw new IllegalStateException("not full");
        }
        return pole;
    }

    static RibbonPole full() {
        return full(LONG);
    }

    static boolean throwsNoSuch(RibbonPole pole, int dancer, int what) {
        try {
            pole.dancer(dancer, what);
            return false;
        } catch (NoSuchElementException e) {
            return true;
        }
    }

    /** All that a pole tells of itself but its status; a long log or plait makes many calls. */
    static String state(RibbonPole pole) {
        StringBuilder text = new StringBuilder();
        for (int what = 0; what < 10; what++) {
            text.append(pole.count(what)).append(what == 9 ? " rule " : " ");
        }
        text.append(pole.rule(0)).append(' ').append(pole.rule(1)).append(' ').append(pole.rule(2));
        text.append(" fault ").append(pole.fault(0)).append(' ').append(pole.fault(1)).append(' ').append(pole.fault(2));
        text.append(" order ").append(pole.most(5)).append(" fits ").append(pole.fits());
        for (int d = 0; d < pole.count(0); d++) {
            text.append(" dancer ").append(pole.dancer(d, 1)).append(' ').append(pole.dancer(d, 4));
        }
        for (int i = 0; i < pole.count(1); i++) {
            text.append(" plait");
            for (int what = 0; what < 5; what++) {
                text.append(' ').append(pole.plait(i, what));
            }
        }
        for (int i = 0; i < pole.count(8); i++) {
            text.append(" log ").append(pole.log(i, 0)).append(' ').append(pole.log(i, 1)).append(' ').append(pole.log(i, 2));
        }
        return text.toString();
    }

    static String statusOf(RibbonPole pole) {
        StringBuilder text = new StringBuilder();
        for (int what = 0; what < 5; what++) {
            text.append(what == 0 ? "" : " ").append(pole.status(what));
        }
        return text.toString();
    }
}
