import java.math.BigInteger;

/** Boundaries of years by draws: promise 18 and the fourth part of Terms. */
final class YearBoundaries {
    private static final int NONE = RibbonPole.NONE;
    private static final long[] SEEDS = {0, 1, -1, Long.MIN_VALUE, Long.MAX_VALUE, 1L << 33, -6364136223846793005L};

    private YearBoundaries() {
    }

    static void all() {
        bounds();
        refused();
        draws();
        nothingIfItCannotBe();
        wind();
        noneToBlowDown();
        acts();
    }

    private static void says(String words) {
        Sentence.says(18, words);
    }

    private static void due(String call, long want, long got) {
        Sentence.due(call, want, got);
    }

    /** The draws worked out with numbers that have no end, cut to 64 bits. */
    private static final class Draws {
        private static final BigInteger ROUND = BigInteger.ONE.shiftLeft(64);
        private BigInteger x;

        Draws(long seed) {
            x = BigInteger.valueOf(seed).mod(ROUND);
        }

        int of(int j) {
            x = x.multiply(new BigInteger("6364136223846793005")).add(new BigInteger("1442695040888963407")).mod(ROUND);
            return x.shiftRight(33).mod(BigInteger.valueOf(j)).intValue();
        }
    }

    private static void bounds() {
        says("YEARS by a seed: n (1 .. 60) BEATS");
        RibbonPole pole = Poles.ring(4, "");
        due("years(1)", 1, pole.years(1, 5));
        due("years(60)", 61, pole.years(60, 5));
        due("years(0)", NONE, pole.years(0, 5));
        due("years(61)", NONE, pole.years(61, 5));
        due("beats", 61, pole.count(6));
        due("sixty in the log", 60, pole.count(8));
        due("no status", 0, pole.status(0) + pole.status(1) + pole.status(2) + pole.status(3) + pole.status(4));
    }

    private static void refused() {
        says("NONE: no GREEN, out of bounds, beyond 999.");
        due("without a green", NONE, new RibbonPole().years(1, 1));
        RibbonPole pole = Poles.ring(3, "");
        for (int n : new int[] {-1, Integer.MIN_VALUE, Integer.MAX_VALUE}) {
            due("years(" + n + ")", NONE, pole.years(n, 1));
        }
        Poles.late(pole, 939);
        due("939 and 60", 999, pole.years(60, 1));
        due("999 and 1", NONE, pole.years(1, 1));
        pole = Poles.late(Poles.ring(3, ""), 940);
        due("940 and 60", NONE, pole.years(60, 1));
        due("no beat came", 940, pole.count(6));
        due("940 and 59", 999, pole.years(59, 1));
        pole.undo();
        due("998 and 2", NONE, pole.years(2, 1));
        due("998 and 1", 999, pole.years(1, 1));
        says("No STATUS.");
        Sentence.due("status", "0 0 0 0 0", Poles.statusOf(pole));
    }

    private static void draws() {
        says("x, at first the seed, becomes x times 6364136223846793005 and 1442695040888963407 (64 bits, going round);"
            + " a draw of j: (x shifted right by 33, without sign) modulo j");
        for (long seed : SEEDS) {
            for (int m = 3; m <= 7; m++) {
                RibbonPole pole = Poles.green("st1w0" + ";dl99".repeat(m));
                due("years", 30, pole.years(30, seed));
                Draws draws = new Draws(seed);
                for (int i = 29; i >= 0; i--) {
                    int letter = 2 * draws.of(m) + draws.of(2);
                    draws.of(10);
                    due("log(" + i + ", 0) by " + seed + " of " + m, letter, pole.log(i, 0));
                }
            }
        }
    }

    private static void nothingIfItCannotBe() {
        says("that CROSSING (0 o, 1 u), if it can be, else nothing");
        RibbonPole pole = Poles.green("st2w0;dl1;dl1;dl1");
        due("ribbons are too short", 20, pole.years(20, 1));
        for (int i = 0; i < 20; i++) {
            due("log(" + i + ", 0)", 20, pole.log(i, 0));
            due("log(" + i + ", 1)", 0, pole.log(i, 1));
        }
        RibbonPole full = Poles.green("st1w0;dl99;dl99;dl99");
        full.years(60, 1);
        full.years(60, 2);
        full.years(60, 3);
        due("the plait is full at most", 40, full.count(1));
        int nothing = 0;
        for (int i = 0; i < 60; i++) {
            nothing += full.log(i, 0) == 20 ? 1 : 0;
            due("forty at most", true, full.log(i, 2) <= 40);
        }
        due("then nothing comes of some", true, nothing > 0);
    }

    private static void due(String call, boolean want, boolean got) {
        Sentence.due(call, want, got);
    }

    /** A twin goes through the same draws by hand, the wind's crossings as well. */
    private static void wind() {
        says("behind it a draw of 10: below WIND the CROSSING that UNDOES, of LOOSE, the one with the highest LETTER, is danced"
            + " (is there any; no BEAT, not in the LOG, no COIN)");
        for (int wind = 0; wind <= 9; wind++) {
            String text = "st1k0w" + wind + ";dl9;dl99;dl20;dl20;dl9";
            RibbonPole pole = Poles.green(text);
            RibbonPole twin = Poles.green(text);
            due("years", 25, pole.years(25, wind - 4));
            Draws draws = new Draws(wind - 4);
            int undone = 0;
            for (int i = 24; i >= 0; i--) {
                int undid = twin.cross(draws.of(5), draws.of(2) == 0);
                due("whether it undid", Math.max(0, undid), pole.log(i, 1));
                due("crossings then", twin.count(1), pole.log(i, 2));
                undone += Math.max(0, undid);
                if (draws.of(10) < wind && twin.count(1) > 0) {
                    int loose = 31 - Integer.numberOfLeadingZeros(twin.most(6));
                    twin.cross(loose / 2, loose % 2 == 1);
                }
            }
            due("coins for beats alone", undone, pole.rule(1));
            due("beats", 25, pole.count(6));
            due("log", 25, pole.count(8));
            due("where all stand", twin.most(5), pole.most(5));
            due("crossings", twin.count(1), pole.count(1));
            for (int i = 0; i < pole.count(1); i++) {
                due("plait(" + i + ", 0)", twin.plait(i, 0), pole.plait(i, 0));
            }
        }
    }

    private static void noneToBlowDown() {
        says("(is there any; no BEAT, not in the LOG, no COIN)");
        RibbonPole pole = Poles.green("st2k0w9;dl1;dl1;dl1");
        due("years", 60, pole.years(60, 9));
        due("no crossing", 0, pole.count(1));
        due("no coin", 0, pole.rule(1));
        due("all home", 3, pole.most(12));
    }

    private static void acts() {
        says("Each BEAT with what is behind it is one ACT.");
        String text = "st1w9;dl99;dl99;dl99;dl99";
        RibbonPole pole = Poles.green(text);
        pole.years(12, 77);
        for (int n = 11; n >= 1; n--) {
            due("undo", n, pole.undo());
            RibbonPole twin = Poles.green(text);
            twin.years(n, 77);
            due("where all stand behind " + n, twin.most(5), pole.most(5));
            due("crossings behind " + n, twin.count(1), pole.count(1));
            due("coins behind " + n, twin.rule(1), pole.rule(1));
            due("log behind " + n, n, pole.count(8));
        }
        due("undo", 0, pole.undo());
        due("all home", 4, pole.most(12));
        RibbonPole many = Poles.green(text);
        many.years(60, 1);
        due("forty of sixty", 40, many.count(9));
    }
}
