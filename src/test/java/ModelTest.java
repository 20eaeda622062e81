import java.util.NoSuchElementException;
import java.util.Random;

/** Runs of calls by chance, each answered by the class and by the plain model beside it. */
public final class ModelTest {
    /** Some seconds; more runs come with a number behind the class's name. */
    private static final int RUNS = 300;

    private final Random random;
    private final RibbonPole pole = new RibbonPole();
    private final NaivePole model = new NaivePole();
    private final Texts texts;
    private String run = "";

    private ModelTest(long seed) {
        random = new Random(seed);
        texts = new Texts(random);
    }

    public static void main(String[] args) {
        int runs = args.length == 0 ? RUNS : Integer.parseInt(args[0]);
        for (int i = 0; i < runs && !Check.anyWrong(); i++) {
            new ModelTest(i).goThrough(i);
        }
        Check.finish();
    }

    private void goThrough(int seed) {
        run = "run " + seed + ": ";
        int calls = 300;
        boolean late = seed % 10 == 9;
        for (int i = 0; i < calls; i++) {
            if (i == 0 && seed % 7 != 0 || random.nextInt(200) == 0) {
                green();
            } else if (late && i > 20 && random.nextInt(3) == 0) {
                int n = 40 + random.nextInt(21);
                due("years", model.years(n, seed), pole.years(n, seed));
            } else if (random.nextInt(3) == 0) {
                act();
            } else if (random.nextInt(12) == 0) {
                tell();
            } else {
                question();
            }
        }
        for (int what = -1; what < 14; what++) {
            due("most", model.most(what), pole.most(what));
            due("count", model.count(what, 0), pole.count(what));
        }
    }

    private void due(String call, long want, long got) {
        Check.due(run + call, want, got);
    }

    /** A number from low on, now and then out of bounds. */
    private int any(int low, int high) {
        int chance = random.nextInt(25);
        if (chance == 0) {
            return new int[] {low - 1, high + 1, Integer.MIN_VALUE, Integer.MAX_VALUE}[random.nextInt(4)];
        }
        return low + random.nextInt(high - low + 1);
    }

    private int place() {
        return any(0, Math.max(0, model.places() - 1));
    }

    private int figure() {
        return any(0, Math.max(0, model.figures.size() - 1));
    }

    private void green() {
        Texts.Green green = texts.green();
        int[] rules = green.rules();
        int want = model.green(rules[0], rules[1], rules[2], green.colours(), green.lengths(), green.sures());
        due("text(0) of " + green.text(), want, Check.text(pole, 0, green.text()));
    }

    private void tell() {
        switch (random.nextInt(4)) {
            case 0:
                Texts.Law law = texts.law();
                due("text(1) of " + law.text(), model.law(law.worth()), Check.text(pole, 1, law.text()));
                break;
            case 1:
            case 2:
                Texts.Figure figure = texts.figure(random.nextInt(3) == 0 ? 12 : 4);
                due("text(2) of " + figure.text(), model.figure(figure.steps()), Check.text(pole, 2, figure.text()));
                break;
            default:
                int n = any(-1, Math.max(0, model.laws.size() - 1));
                Check.due(run + "law", model.hold(n), pole.law(n));
                break;
        }
    }

    private void act() {
        int n = random.nextInt(24);
        if (n < 12) {
            int spot = place();
            boolean over = random.nextInt(3) > 0;
            due("cross", model.cross(spot, over), pole.cross(spot, over));
        } else if (n < 14) {
            int figure = figure();
            due("dance", model.dance(figure), pole.dance(figure));
        } else if (n == 14) {
            int many = any(1, 9);
            due("down", model.down(many), pole.down(many));
        } else if (n == 15) {
            due("beat", model.beat(), pole.beat());
        } else if (n < 19) {
            int dancer = place();
            int more = any(1, 20);
            due("longer", model.longer(dancer, more), pole.longer(dancer, more));
        } else if (n < 21) {
            int coins = any(1, 50);
            due("give", model.give(coins), pole.give(coins));
        } else if (n == 21) {
            for (int i = random.nextInt(random.nextInt(8) == 0 ? 50 : 4); i > 0; i--) {
                due("undo", model.undo(), pole.undo());
            }
        } else if (n == 22) {
            int years = any(1, 60);
            long seed = random.nextLong();
            due("years", model.years(years, seed), pole.years(years, seed));
        } else if (random.nextBoolean()) {
            due("image", model.image(), pole.image());
        } else {
            due("back", model.back(), pole.back());
        }
    }

    private void question() {
        if (random.nextBoolean()) {
            questionOfAll();
        } else {
            questionApart();
        }
    }

    private void questionOfAll() {
        int spot = place();
        int other = place();
        int what = random.nextInt(15) - 1;
        switch (random.nextInt(12)) {
            case 0:
                due("rule", model.rule(what), pole.rule(what));
                break;
            case 1:
                int few = random.nextInt(8) - 1;
                due("dancer", ofDancer(spot, few, true), ofDancer(spot, few, false));
                break;
            case 2:
                due("stands", model.stands(spot), pole.stands(spot));
                break;
            case 3:
                int figure = figure();
                int i = any(-1, 20);
                due("step", model.step(figure, i), pole.step(figure, i));
                break;
            case 4:
            case 5:
                wholePlait();
                break;
            case 6:
                int sort = any(0, 4);
                due("status", sort < 0 || sort > 4 ? -1 : model.status[sort], pole.status(sort));
                break;
            case 7:
                int ago = any(0, 60);
                due("log", model.log(ago, what), pole.log(ago, what));
                due("log", model.log(ago, what % 3), pole.log(ago, what % 3));
                break;
            case 8:
                boolean over = random.nextBoolean();
                due("takes", model.takes(spot, over), pole.takes(spot, over));
                break;
            case 9:
                due("bound", model.bound(spot, other), pole.bound(spot, other));
                break;
            case 10:
                due("most " + what, model.most(what), pole.most(what));
                break;
            default:
                due("count " + what, model.count(what, 0), pole.count(what));
                break;
        }
    }

    private long ofDancer(int dancer, int what, boolean ofModel) {
        try {
            return ofModel ? model.dancer(dancer, what) : pole.dancer(dancer, what);
        } catch (NoSuchElementException e) {
            return Long.MIN_VALUE;
        }
    }

    private void wholePlait() {
        for (int i = -1; i <= model.now.plait.size(); i++) {
            int what = random.nextInt(7) - 1;
            due("plait(" + i + ", " + what + ")", model.plait(i, what), pole.plait(i, what));
            due("plait(" + i + ", 0)", model.plait(i, 0), pole.plait(i, 0));
            due("stripe(" + i + ")", model.stripe(i), pole.stripe(i));
        }
    }

    private void questionApart() {
        int spot = place();
        int figure = figure();
        int what = any(0, 1);
        switch (random.nextInt(13)) {
            case 0:
                due("letOut", model.letOut(spot), pole.letOut(spot));
                break;
            case 1:
                int n = any(0, 99);
                due("behind", model.behind(figure, n, spot), pole.behind(figure, n, spot));
                break;
            case 2:
                due("rounds", model.rounds(figure), pole.rounds(figure));
                break;
            case 3:
                due("knot", model.knot(figure), pole.knot(figure));
                break;
            case 4:
                int second = figure();
                due("same", model.same(figure, second), pole.same(figure, second));
                break;
            case 5:
                int order = anyOrder();
                if (random.nextInt(10) == 0) {
                    due("nearest " + order, model.nearest(order, what), pole.nearest(order, what));
                }
                break;
            case 6:
                due("times", model.times(figure), pole.times(figure));
                break;
            case 7:
                int to = place();
                int times = any(1, 9);
                boolean is = random.nextInt(4) == 0;
                due("seen", model.seen(spot, to, times, is), pole.seen(spot, to, times, is));
                break;
            case 8:
                due("fits", model.fits(), pole.fits());
                break;
            case 9:
                due("ask", model.ask(spot), pole.ask(spot));
                break;
            case 10:
                int x = any(0, 2);
                int y = any(0, 2);
                due("game", model.game(spot, x, y, what), pole.game(spot, x, y, what));
                int i = any(-1, 9);
                due("rests", model.rests(spot, i), pole.rests(spot, i));
                break;
            case 11:
                int chance = any(0, 100);
                int v = any(0, random.nextBoolean() ? 60 : 8);
                due("odds", model.odds(figure, chance, v), pole.odds(figure, chance, v));
                break;
            default:
                int c = any(0, 999);
                due("shares", model.shares(spot, c), pole.shares(spot, c));
                break;
        }
    }

    private int anyOrder() {
        int order = 0;
        int[] row = {0, 1, 2, 3, 4, 5, 6};
        for (int i = model.places() - 1; i >= 0; i--) {
            int j = random.nextInt(i + 1);
            order = 10 * order + row[j];
            row[j] = row[i];
        }
        return random.nextInt(10) == 0 ? order + random.nextInt(4000) - 2000 : order;
    }
}
