import java.util.NoSuchElementException;

/** Dancers in a ring who plait ribbons round a pole; the document tells each promise by its number. */
public final class RibbonPole {
    public static final int NONE = -1;
    public static final int HIDDEN = -1000000;

    private static final int NO_SORT = -2;
    private static final int MOST_BYTES = 240;
    private static final int FEWEST_DANCERS = 3;
    private static final int MOST_DANCERS = 7;
    private static final int MOST_LAWS = 4;
    private static final int MOST_FIGURES = 6;
    private static final int MOST_STEPS = 48;
    private static final int MOST_CROSSINGS = 40;
    private static final int MOST_ENTRIES = 60;
    private static final int MOST_ACTS = 40;
    private static final int MOST_SEEN = 10;
    private static final int MOST_COINS = 999;
    private static final int MOST_LENGTH = 99;
    private static final int MOST_TIMES = 99;
    private static final int LAST_BEAT = 999;
    private static final int MOST_ODDS_STEPS = 8;
    private static final int MOST_V = 60;
    private static final int ALL_PARTS = 1000000000;

    /** A plait that never is full has 48 at most: a figure's alone, or 40 and the 8 of odds. */
    private static final int ENDLESS_CROSSINGS = 48;

    /** Rows by dancers and by places have 8 cells, so that three bits are an index that is there. */
    private static final int ROW = 8;

    /** No permutation of seven comes back later than behind 12 times. */
    private static final int MOST_ROUNDS = 12;

    /** The letter of a beat without anything, and the step w. */
    private static final int NOTHING = 20;

    private static final int NO_SUCH_ONE = 0;
    private static final int OUT_OF_BOUNDS = 1;
    private static final int TOO_SHORT = 2;
    private static final int NO_CROSSING = 2;
    private static final int FULL = 3;
    private static final int TOO_FEW_COINS = 3;
    private static final int BEYOND = 4;
    private static final int STATUS_SORTS = 5;

    private static final int OVER = 0;
    private static final int STAYS = 2;

    private static final int COLOUR = 0;
    private static final int LENGTH = 1;
    private static final int SURE = 2;

    private static final int BLANK = 32;
    private static final int END = -1;

    private static final String RULE_LETTERS = "tkw";
    private static final int[] RULE_LOWEST = {1, 0, 0};
    private static final int[] RULE_HIGHEST = {9, 99, 9};
    private static final int[] RULE_WITHOUT = {2, 20, 2};
    private static final String TRAIT_LETTERS = "cls";
    private static final int[] TRAIT_LOWEST = {0, 1, 0};
    private static final int[] TRAIT_HIGHEST = {7, 99, 9};
    private static final int[] TRAIT_WITHOUT = {0, 30, 5};
    private static final int ITEM_SORTS = 3;

    private static final String LAW_LETTERS = "tsunhb";
    private static final int MOST_NESTED_IN_LAW = 6;
    private static final int MOST_NESTED_IN_FIGURE = 3;
    private static final int MOST_NUMBER = 1000000;
    private static final int STACK = 64;

    private final Tape tape = new Tape();
    private final GreenReader greenReader = new GreenReader(tape);
    private final LawReader lawReader = new LawReader(tape);
    private final FigureReader figureReader = new FigureReader(tape);
    private final Green green = new Green();
    private final Pole pole = new Pole();
    private final Pole kept = new Pole();
    private final Acts acts = new Acts();
    private final Law[] laws = new Law[MOST_LAWS];
    private int lawCount;
    private int holding = NONE;
    private final Figure[] figures = new Figure[MOST_FIGURES];
    private int figureCount;
    private final int[] refused = new int[STATUS_SORTS];
    private final int[] sightings = new int[MOST_SEEN];
    private int seenCount;
    private final Pole[] apart = new Pole[MOST_ODDS_STEPS + 1];
    private final int[] told = new int[ENDLESS_CROSSINGS];
    private final Way way = new Way();
    private long drawn;

    public RibbonPole() {
        for (int i = 0; i < MOST_LAWS; i++) {
            laws[i] = new Law();
        }
        for (int i = 0; i < MOST_FIGURES; i++) {
            figures[i] = new Figure();
        }
        for (int i = 0; i <= MOST_ODDS_STEPS; i++) {
            apart[i] = new Pole();
        }
    }

    // ---- texts

    public int feed(int a, int b, int c, int d, int e) {
        int more = Tape.bytesIn(a) + Tape.bytesIn(b) + Tape.bytesIn(c) + Tape.bytesIn(d) + Tape.bytesIn(e);
        if (tape.size + more > MOST_BYTES) {
            return NONE;
        }
        tape.add(a);
        tape.add(b);
        tape.add(c);
        tape.add(d);
        tape.add(e);
        return tape.size;
    }

    public boolean end(int n) {
        if (n < 0 || n > tape.size) {
            return false;
        }
        tape.size = n;
        return true;
    }

    public int fault(int sort) {
        Reader reader = readerOf(sort);
        if (reader == null) {
            return NO_SORT;
        }
        return reader.readAll() ? NONE : reader.at;
    }

    private Reader readerOf(int sort) {
        switch (sort) {
            case 0:
                return greenReader;
            case 1:
                return lawReader;
            case 2:
                return figureReader;
            default:
                return null;
        }
    }

    public int text(int sort) {
        Reader reader = readerOf(sort);
        if (reader == null || !reader.readAll()) {
            return NONE;
        }
        switch (sort) {
            case 0:
                return beginGreen();
            case 1:
                return addLaw();
            default:
                return addFigure();
        }
    }

    private int beginGreen() {
        green.copyFrom(greenReader.draft);
        tape.size = 0;
        pole.beginAs(green);
        kept.places = 0;
        acts.forget();
        seenCount = 0;
        return green.dancers;
    }

    private int addLaw() {
        if (lawCount >= MOST_LAWS) {
            return NONE;
        }
        laws[lawCount].copyFrom(lawReader.draft);
        tape.size = 0;
        lawCount++;
        return lawCount - 1;
    }

    private int addFigure() {
        if (figureCount >= MOST_FIGURES) {
            return NONE;
        }
        figures[figureCount].copyFrom(figureReader.draft);
        tape.size = 0;
        figureCount++;
        return figureCount - 1;
    }

    // ---- what there is

    private boolean hasGreen() {
        return green.dancers > 0;
    }

    private boolean isDancer(int dancer) {
        return dancer >= 0 && dancer < green.dancers;
    }

    private boolean isFigure(int figure) {
        return figure >= 0 && figure < figureCount;
    }

    public int rule(int what) {
        if (!hasGreen()) {
            return NONE;
        }
        switch (what) {
            case 0:
                return green.tight();
            case 1:
                return pole.coins;
            case 2:
                return green.wind();
            default:
                return NONE;
        }
    }

    public int dancer(int dancer, int what) throws NoSuchElementException {
        if (!isDancer(dancer) || what < 0 || what > 5) {
            throw new NoSuchElementException();
        }
        switch (what) {
            case 0:
                return green.trait(dancer, COLOUR);
            case 1:
                return pole.lengths[dancer];
            case 2:
                return green.trait(dancer, SURE);
            case 3:
                return pole.placeOf(dancer);
            case 4:
                return pole.leftOf(dancer);
            default:
                return pole.crossingsOf(dancer);
        }
    }

    public int stands(int spot) {
        return pole.hasPlace(spot) ? pole.who[spot] : NONE;
    }

    public boolean law(int law) {
        if (law < NONE || law >= lawCount) {
            return false;
        }
        holding = law;
        return true;
    }

    public int step(int figure, int i) {
        if (!isFigure(figure)) {
            return NONE;
        }
        Figure steps = figures[figure];
        return i == NONE ? steps.size : steps.letterAt(i);
    }

    public int plait(int i, int what) {
        if (i < 0 || i >= pole.size) {
            return NONE;
        }
        pole.tellOrder(told);
        switch (what) {
            case 0:
                return Pole.letterIn(told[i]);
            case 1:
                return Pole.overIn(told[i]);
            case 2:
                return Pole.underIn(told[i]);
            case 3:
                return Pole.tookIn(told[i]);
            case 4:
                return Pole.layerIn(told[i]);
            default:
                return NONE;
        }
    }

    public int stripe(int i) {
        if (i < 0 || i >= pole.size) {
            return NONE;
        }
        pole.tellOrder(told);
        return green.trait(Pole.overIn(told[i]), COLOUR);
    }

    public int status(int what) {
        return what < 0 || what >= STATUS_SORTS ? NONE : refused[what];
    }

    public int log(int i, int what) {
        if (i < 0 || i >= pole.entryCount()) {
            return NONE;
        }
        int entry = pole.entryAgo(i);
        switch (what) {
            case 0:
                return entry & 31;
            case 1:
                return entry >> 5 & 1;
            case 2:
                return entry >> 6;
            default:
                return NONE;
        }
    }

    public int count(int what) {
        switch (what) {
            case 0:
                return green.dancers;
            case 1:
                return pole.size;
            case 2:
                return lawCount;
            case 3:
                return figureCount;
            case 4:
                return tape.size;
            case 5:
                return holding;
            case 6:
                return pole.beat;
            case 7:
                return seenCount;
            case 8:
                return pole.entryCount();
            case 9:
                return acts.size;
            default:
                return HIDDEN;
        }
    }

    // ---- acts

    private int refuse(int sort) {
        if (sort >= 0 && sort < STATUS_SORTS) {
            refused[sort]++;
        }
        return NONE;
    }

    private int priceOn(Pole ring, int letter) {
        if (holding < 0 || holding >= lawCount) {
            return green.tight();
        }
        int sureOver = green.trait(ring.overBy(letter), SURE);
        int sureUnder = green.trait(ring.underBy(letter), SURE);
        int layer = ring.layerAt(letter >> 1);
        int worth = laws[holding].worth(green.tight(), sureOver, sureUnder, ring.size, layer, ring.beat % 100);
        return Math.max(1, Math.min(9, worth));
    }

    /** 0, or the status of what hinders the crossing. */
    private int hindranceOf(int letter) {
        return pole.undoneBy(letter) >= 0 ? 0 : pole.hindrance(letter, priceOn(pole, letter));
    }

    /** Whether the crossing undid one (1, 0), or what hindered it, below 0. */
    private int moveOn(Pole ring, int letter) {
        int index = ring.undoneBy(letter);
        if (index >= 0) {
            ring.takeOut(index);
            return 1;
        }
        int price = priceOn(ring, letter);
        int hindrance = ring.hindrance(letter, price);
        if (hindrance != 0) {
            return -hindrance;
        }
        ring.putIn(letter, price);
        return 0;
    }

    /** Takes one beat as an act; the caller has looked whether the crossing and the beat can be. */
    private int takeBeat(int letter) {
        acts.keep(pole);
        int undid = pole.hasPlace(letter >> 1) ? Math.max(0, moveOn(pole, letter)) : 0;
        if (undid == 1) {
            pole.coins = Math.min(MOST_COINS, pole.coins + 1);
        }
        pole.noteBeat(pole.hasPlace(letter >> 1) ? letter : NOTHING, undid);
        return undid;
    }

    public int cross(int spot, boolean over) {
        if (!hasGreen()) {
            return refuse(NO_SUCH_ONE);
        }
        if (!pole.hasPlace(spot)) {
            return refuse(OUT_OF_BOUNDS);
        }
        int letter = letterOf(spot, over);
        int hindrance = hindranceOf(letter);
        if (hindrance != 0) {
            return refuse(hindrance);
        }
        if (pole.beat >= LAST_BEAT) {
            return refuse(BEYOND);
        }
        return takeBeat(letter);
    }

    private static int letterOf(int spot, boolean over) {
        return over ? 2 * spot : 2 * spot + 1;
    }

    public int beat() {
        if (!hasGreen()) {
            return refuse(NO_SUCH_ONE);
        }
        if (pole.beat >= LAST_BEAT) {
            return refuse(BEYOND);
        }
        takeBeat(NOTHING);
        return pole.beat;
    }

    public int dance(int figure) {
        if (!hasGreen() || !isFigure(figure)) {
            return refuse(NO_SUCH_ONE);
        }
        if (pole.beat >= LAST_BEAT) {
            return refuse(BEYOND);
        }
        Figure steps = figures[figure];
        for (int i = 0; i < steps.size; i++) {
            int letter = steps.letterAt(i);
            if (pole.beat >= LAST_BEAT || pole.hasPlace(letter >> 1) && hindranceOf(letter) != 0) {
                return i;
            }
            takeBeat(letter);
        }
        return steps.size;
    }

    public int down(int n) {
        if (!hasGreen()) {
            return refuse(NO_SUCH_ONE);
        }
        if (n < 1 || n > 9) {
            return refuse(OUT_OF_BOUNDS);
        }
        if (pole.size == 0) {
            return refuse(NO_CROSSING);
        }
        if (pole.beat >= LAST_BEAT) {
            return refuse(BEYOND);
        }
        for (int i = 0; i < n; i++) {
            if (pole.size == 0 || pole.beat >= LAST_BEAT) {
                return i;
            }
            takeBeat(pole.undoingLetter());
        }
        return n;
    }

    public int longer(int dancer, int n) {
        if (!isDancer(dancer)) {
            return refuse(NO_SUCH_ONE);
        }
        if (n < 1 || n > 20) {
            return refuse(OUT_OF_BOUNDS);
        }
        if (pole.coins < n || pole.lengths[dancer] + n > MOST_LENGTH) {
            return refuse(TOO_FEW_COINS);
        }
        acts.keep(pole);
        pole.coins -= n;
        pole.lengths[dancer] += n;
        return pole.lengths[dancer];
    }

    public int give(int n) {
        if (!hasGreen()) {
            return refuse(NO_SUCH_ONE);
        }
        if (n < 1 || n > 50 || pole.coins + n > MOST_COINS) {
            return refuse(OUT_OF_BOUNDS);
        }
        acts.keep(pole);
        pole.coins += n;
        return pole.coins;
    }

    public int years(int n, long seed) {
        if (!hasGreen() || n < 1 || n > 60 || pole.beat + n > LAST_BEAT) {
            return NONE;
        }
        drawn = seed;
        for (int i = 0; i < n; i++) {
            int letter = 2 * draw(green.dancers);
            letter += draw(2);
            takeBeat(hindranceOf(letter) == 0 ? letter : NOTHING);
            if (draw(10) < green.wind() && pole.size > 0) {
                moveOn(pole, pole.undoingLetter());
            }
        }
        return pole.beat;
    }

    private int draw(int j) {
        drawn = drawn * 6364136223846793005L + 1442695040888963407L;
        return j < 1 ? 0 : (int) ((drawn >>> 33) % j);
    }

    public int undo() {
        if (acts.size == 0) {
            return NONE;
        }
        acts.takeBack(pole);
        return acts.size;
    }

    public int image() {
        if (!hasGreen()) {
            return NONE;
        }
        kept.copyFrom(pole);
        return pole.beat;
    }

    public int back() {
        if (kept.places == 0) {
            return NONE;
        }
        pole.copyFrom(kept);
        acts.forget();
        return pole.beat;
    }

    // ---- questions about the plait

    public int takes(int spot, boolean over) {
        return pole.hasPlace(spot) ? priceOn(pole, letterOf(spot, over)) : NONE;
    }

    public int bound(int one, int other) {
        if (!isDancer(one) || !isDancer(other) || one == other) {
            return HIDDEN;
        }
        return pole.oversOf(one, other) - pole.oversOf(other, one);
    }

    public int letOut(int dancer) {
        return isDancer(dancer) ? pole.toLetOut(dancer) : NONE;
    }

    public int shares(int dancer, int c) {
        if (!isDancer(dancer) || c < 0 || c > 999) {
            return NONE;
        }
        int all = pole.takenOfAll();
        return all == 0 ? 0 : c * pole.takenOf(dancer) / all;
    }

    public int most(int what) {
        if (!hasGreen()) {
            return HIDDEN;
        }
        switch (what) {
            case 0:
            case 1:
            case 2:
            case 3:
                return foremost(what);
            case 4:
                return pole.depth();
            case 5:
                return pole.orderOfAll();
            case 6:
                return pole.looseLetters();
            case 7:
                return pole.firstLetters();
            case 8:
                return pole.freeDancers();
            case 9:
                return changes();
            case 10:
                return pole.twist();
            case 11:
                return pole.takenOfAll();
            case 12:
                return pole.atHome();
            default:
                return HIDDEN;
        }
    }

    private int foremost(int what) {
        int best = 0;
        for (int d = 1; d < green.dancers; d++) {
            if (measure(d, what) > measure(best, what)) {
                best = d;
            }
        }
        return best;
    }

    private int measure(int dancer, int what) {
        switch (what) {
            case 0:
                return pole.leftOf(dancer);
            case 1:
                return -pole.leftOf(dancer);
            case 2:
                return pole.crossingsOf(dancer);
            default:
                return green.trait(dancer, SURE);
        }
    }

    private int changes() {
        pole.tellOrder(told);
        int changes = 0;
        for (int i = 1; i < pole.size; i++) {
            int ahead = green.trait(Pole.overIn(told[i - 1]), COLOUR);
            if (green.trait(Pole.overIn(told[i]), COLOUR) != ahead) {
                changes++;
            }
        }
        return changes;
    }

    // ---- questions about figures

    private int placeBehind(Figure steps, int place, int n) {
        int spot = place;
        for (int i = 0; i < n; i++) {
            spot = steps.follow(spot, green.dancers);
        }
        return spot;
    }

    public int behind(int figure, int n, int dancer) {
        if (!isFigure(figure) || !isDancer(dancer) || n < 0 || n > MOST_TIMES) {
            return NONE;
        }
        return placeBehind(figures[figure], pole.placeOf(dancer), n);
    }

    public int rounds(int figure) {
        if (!hasGreen() || !isFigure(figure)) {
            return NONE;
        }
        for (int n = 1; n < MOST_ROUNDS; n++) {
            if (allBackBehind(figures[figure], n)) {
                return n;
            }
        }
        return MOST_ROUNDS;
    }

    private boolean allBackBehind(Figure steps, int n) {
        for (int place = 0; place < green.dancers; place++) {
            if (placeBehind(steps, place, n) != place) {
                return false;
            }
        }
        return true;
    }

    private void plaitAlone(Figure steps, Pole ring) {
        ring.beginAs(green);
        for (int i = 0; i < steps.size; i++) {
            ring.moveEndless(steps.letterAt(i));
        }
    }

    public int knot(int figure) {
        if (!hasGreen() || !isFigure(figure)) {
            return NONE;
        }
        plaitAlone(figures[figure], apart[0]);
        return apart[0].size;
    }

    public int same(int figure, int other) {
        if (!hasGreen() || !isFigure(figure) || !isFigure(other)) {
            return NONE;
        }
        plaitAlone(figures[figure], apart[0]);
        plaitAlone(figures[other], apart[1]);
        return apart[0].plaitsLike(apart[1]) ? 1 : 0;
    }

    public int nearest(int order, int what) {
        if (!hasGreen() || what < 0 || what > 1 || !way.aim(order, pole)) {
            return NONE;
        }
        return what == 0 ? way.fewest() : way.firstPlace();
    }

    public int times(int figure) {
        if (!hasGreen() || !isFigure(figure)) {
            return NONE;
        }
        apart[0].standAs(pole);
        for (int n = 0; n < MOST_TIMES; n++) {
            if (!dancedWhole(figures[figure], apart[0])) {
                return n;
            }
        }
        return MOST_TIMES;
    }

    private boolean dancedWhole(Figure steps, Pole ring) {
        for (int i = 0; i < steps.size; i++) {
            int letter = steps.letterAt(i);
            if (ring.hasPlace(letter >> 1) && moveOn(ring, letter) < 0) {
                return false;
            }
            ring.beat++;
        }
        return true;
    }

    // ---- what was seen

    public int seen(int dancer, int spot, int n, boolean is) {
        if (!isDancer(dancer) || !pole.hasPlace(spot) || n < 1 || n > 9 || seenCount >= MOST_SEEN) {
            return NONE;
        }
        sightings[seenCount] = dancer | spot << 3 | n << 6 | (is ? 1 << 10 : 0);
        seenCount++;
        return seenCount;
    }

    public int fits() {
        if (!hasGreen()) {
            return NONE;
        }
        int bits = 0;
        for (int f = 0; f < figureCount; f++) {
            if (agreesWithAll(figures[f])) {
                bits |= 1 << f;
            }
        }
        return bits;
    }

    private boolean agreesWithAll(Figure steps) {
        for (int i = 0; i < seenCount; i++) {
            int sighting = sightings[i];
            boolean there = placeBehind(steps, sighting & 7, sighting >> 6 & 15) == (sighting >> 3 & 7);
            if (there != (sighting >> 10 == 1)) {
                return false;
            }
        }
        return true;
    }

    public int ask(int dancer) {
        int fitting = fits();
        if (!isDancer(dancer) || fitting <= 0) {
            return NONE;
        }
        int best = 1;
        int fewest = MOST_FIGURES + 1;
        for (int n = 1; n <= 9; n++) {
            int agreeing = mostAgreeing(fitting, dancer, n);
            if (agreeing < fewest) {
                fewest = agreeing;
                best = n;
            }
        }
        return best;
    }

    private int mostAgreeing(int fitting, int dancer, int n) {
        int most = 0;
        int tally = 0;
        for (int f = 0; f < figureCount; f++) {
            if ((fitting >> f & 1) != 0) {
                // Four bits a place hold the six figures that there can be.
                int shift = 4 * placeBehind(figures[f], dancer, n);
                tally += 1 << shift;
                most = Math.max(most, tally >> shift & 15);
            }
        }
        return most;
    }

    // ---- games and odds

    public int game(int spot, int x, int y, int what) {
        if (!pole.hasPlace(spot) || x < 0 || x > STAYS || y < 0 || y > STAYS || what < 0 || what > 1) {
            return HIDDEN;
        }
        return gain(spot, x, y, what);
    }

    private int gain(int spot, int x, int y, int what) {
        if (x == STAYS || y == STAYS) {
            return 0;
        }
        if (x == y) {
            return x == OVER ? -2 : -1;
        }
        int letter = letterOf(spot, x == OVER);
        if (pole.undoneBy(letter) >= 0) {
            return 4;
        }
        int price = priceOn(pole, letter);
        if (pole.hindrance(letter, price) != 0) {
            return -3;
        }
        int own = what == 0 ? x : y;
        return (own == OVER ? 6 : 5) - price;
    }

    public int rests(int spot, int i) {
        if (!pole.hasPlace(spot) || i < NONE) {
            return NONE;
        }
        int met = 0;
        for (int x = 0; x <= STAYS; x++) {
            for (int y = 0; y <= STAYS; y++) {
                if (isRest(spot, x, y)) {
                    if (met == i) {
                        return 10 * x + y;
                    }
                    met++;
                }
            }
        }
        return i == NONE ? met : NONE;
    }

    private boolean isRest(int spot, int x, int y) {
        int ofOne = gain(spot, x, y, 0);
        int ofOther = gain(spot, x, y, 1);
        for (int own = 0; own <= STAYS; own++) {
            if (gain(spot, own, y, 0) > ofOne || gain(spot, x, own, 1) > ofOther) {
                return false;
            }
        }
        return true;
    }

    public int odds(int figure, int chance, int v) {
        if (!hasGreen() || !isFigure(figure) || chance < 0 || chance > 100 || v < 0 || v > MOST_V) {
            return NONE;
        }
        Figure steps = figures[figure];
        if (steps.size > MOST_ODDS_STEPS) {
            return NONE;
        }
        apart[0].standAs(pole);
        return (int) fewFrom(0, ALL_PARTS, steps, chance, v);
    }

    /** Of the parts that stand as apart[i] does ahead of step i: those that end with v or fewer. */
    private long fewFrom(int i, long parts, Figure steps, int chance, int v) {
        if (parts == 0 || i < 0 || i > MOST_ODDS_STEPS) {
            return 0;
        }
        if (i >= steps.size) {
            return apart[i].size <= v ? parts : 0;
        }
        int letter = steps.letterAt(i);
        if (!apart[i].hasPlace(letter >> 1)) {
            return fewBy(i, letter, parts, steps, chance, v);
        }
        long turned = parts * chance / 100;
        return fewBy(i, letter, parts - turned, steps, chance, v) + fewBy(i, letter ^ 1, turned, steps, chance, v);
    }

    private long fewBy(int i, int letter, long parts, Figure steps, int chance, int v) {
        if (parts == 0 || i < 0 || i >= MOST_ODDS_STEPS) {
            return 0;
        }
        apart[i + 1].standAs(apart[i]);
        apart[i + 1].moveEndless(letter);
        return fewFrom(i + 1, parts, steps, chance, v);
    }

    // ---- the tape and its readers

    private static final class Tape {
        final int[] bytes = new int[MOST_BYTES];
        int size;

        static int bytesIn(int four) {
            int found = 0;
            for (int shift = 24; shift >= 0; shift -= 8) {
                if ((four >>> shift & 255) != 0) {
                    found++;
                }
            }
            return found;
        }

        void add(int four) {
            for (int shift = 24; shift >= 0; shift -= 8) {
                int sign = four >>> shift & 255;
                if (sign != 0 && size < MOST_BYTES) {
                    bytes[size] = sign;
                    size++;
                }
            }
        }

        int signAt(int i) {
            return i >= 0 && i < size ? bytes[i] : END;
        }
    }

    /** A reader never goes past a byte at which its text can't go on, so that where it stands is the fault. */
    private abstract static class Reader {
        final Tape tape;
        int at;

        Reader(Tape tape) {
            this.tape = tape;
        }

        /** False: the reader stands at the fault. */
        abstract boolean readAll();

        int nextSign() {
            while (at < tape.size && tape.bytes[at] == BLANK) {
                at++;
            }
            return at < tape.size ? tape.bytes[at] : END;
        }

        boolean passes(int sign) {
            if (nextSign() != sign) {
                return false;
            }
            at++;
            return true;
        }

        static boolean isDigit(int sign) {
            return sign >= '0' && sign <= '9';
        }

        /** The number, with the reader behind its last digit; NONE at a fault. */
        int readNumber(int mostDigits) {
            if (!isDigit(nextSign())) {
                return NONE;
            }
            int value = 0;
            for (int digits = 0; digits < mostDigits && isDigit(tape.signAt(at)); digits++) {
                value = 10 * value + tape.signAt(at) - '0';
                at++;
            }
            return isDigit(tape.signAt(at)) ? NONE : value;
        }
    }

    private static final class GreenReader extends Reader {
        final Green draft = new Green();
        private boolean hasRules;

        GreenReader(Tape tape) {
            super(tape);
        }

        boolean readAll() {
            at = 0;
            draft.clear();
            hasRules = false;
            for (int clauses = 0; clauses < MOST_BYTES; clauses++) {
                if (!readClause()) {
                    return false;
                }
                if (nextSign() == END) {
                    return draft.dancers >= FEWEST_DANCERS;
                }
                if (!passes(';')) {
                    return false;
                }
            }
            return false;
        }

        private boolean readClause() {
            int sign = nextSign();
            if (sign == 's' && !hasRules) {
                hasRules = true;
                at++;
                return readItems(RULE_LETTERS, RULE_LOWEST, RULE_HIGHEST, draft.rules, 0);
            }
            if (sign == 'd' && draft.dancers < MOST_DANCERS) {
                int from = draft.addDancer();
                at++;
                return readItems(TRAIT_LETTERS, TRAIT_LOWEST, TRAIT_HIGHEST, draft.traits, from);
            }
            return false;
        }

        private boolean readItems(String letters, int[] lowest, int[] highest, int[] into, int from) {
            int met = 0;
            for (int items = 0; items <= ITEM_SORTS; items++) {
                int sign = nextSign();
                if (sign == END || sign == ';') {
                    return true;
                }
                int sort = letters.indexOf((char) sign);
                if (sort < 0 || sort >= ITEM_SORTS || (met >> sort & 1) != 0) {
                    return false;
                }
                met |= 1 << sort;
                at++;
                int value = readWithin(lowest[sort], highest[sort]);
                if (value < 0 || from < 0 || from + sort >= into.length) {
                    return false;
                }
                into[from + sort] = value;
            }
            return false;
        }

        private int readWithin(int lowest, int highest) {
            int value = readNumber(2);
            if (value == NONE || value >= lowest && value <= highest) {
                return value;
            }
            // A number out of bounds is wrong at its last digit, which the reader has gone past.
            at--;
            return NONE;
        }
    }

    /** Turns a law into codes with each sign behind what it joins, so that no text is read again for a price. */
    private static final class LawReader extends Reader {
        final Law draft = new Law();

        LawReader(Tape tape) {
            super(tape);
        }

        boolean readAll() {
            at = 0;
            draft.size = 0;
            for (int clauses = 0; clauses < MOST_BYTES; clauses++) {
                if (!passes('y') || !passes(':') || !readBody()) {
                    return false;
                }
                draft.add(Law.ANSWER);
                if (nextSign() == END) {
                    return true;
                }
                if (!passes(';')) {
                    return false;
                }
            }
            return false;
        }

        private boolean readBody() {
            int sign = nextSign();
            if (sign == '!' || sign == '(') {
                return readCondition(0) && readBehindCondition();
            }
            if (!readSum(0)) {
                return false;
            }
            if (!isComparison(nextSign())) {
                return true;
            }
            return readComparison(0) && readMoreUnits(0) && readBehindCondition();
        }

        private boolean readBehindCondition() {
            if (!passes('?')) {
                return false;
            }
            draft.add(Law.TEST);
            return readSum(0);
        }

        private boolean readCondition(int nested) {
            return readUnit(nested) && readMoreUnits(nested);
        }

        /** What may stand behind the first unit of a condition. */
        private boolean readMoreUnits(int nested) {
            if (!readMoreOfTruth(nested)) {
                return false;
            }
            for (int truths = 0; truths < MOST_BYTES && passes('|'); truths++) {
                if (!readUnit(nested) || !readMoreOfTruth(nested)) {
                    return false;
                }
                draft.add(Law.OR);
            }
            return true;
        }

        private boolean readMoreOfTruth(int nested) {
            for (int units = 0; units < MOST_BYTES && passes('&'); units++) {
                if (!readUnit(nested)) {
                    return false;
                }
                draft.add(Law.AND);
            }
            return true;
        }

        private boolean readUnit(int nested) {
            int sign = nextSign();
            if (sign == '!') {
                if (!opens(nested) || !readUnit(nested + 1)) {
                    return false;
                }
                draft.add(Law.NOT);
                return true;
            }
            if (sign == '(') {
                return opens(nested) && readCondition(nested + 1) && passes(')');
            }
            return readSum(nested) && readComparison(nested);
        }

        /** Goes past one of ( [ ! unless it is the seventh within one another. */
        private boolean opens(int nested) {
            if (nested >= MOST_NESTED_IN_LAW) {
                return false;
            }
            at++;
            return true;
        }

        private static boolean isComparison(int sign) {
            return sign == '=' || sign == '<' || sign == '>';
        }

        private boolean readComparison(int nested) {
            int sign = nextSign();
            if (!isComparison(sign)) {
                return false;
            }
            at++;
            if (!readSum(nested)) {
                return false;
            }
            draft.add(sign == '=' ? Law.ALIKE : sign == '<' ? Law.LESS : Law.MORE);
            return true;
        }

        private boolean readSum(int nested) {
            if (!readTerm(nested)) {
                return false;
            }
            for (int terms = 0; terms < MOST_BYTES; terms++) {
                int sign = nextSign();
                if (sign != '+' && sign != '-') {
                    return true;
                }
                at++;
                if (!readTerm(nested)) {
                    return false;
                }
                draft.add(sign == '+' ? Law.PLUS : Law.MINUS);
            }
            return false;
        }

        private boolean readTerm(int nested) {
            if (!readAtom(nested)) {
                return false;
            }
            for (int atoms = 0; atoms < MOST_BYTES; atoms++) {
                int sign = nextSign();
                if (sign != '*' && sign != '/') {
                    return true;
                }
                at++;
                if (!readAtom(nested)) {
                    return false;
                }
                draft.add(sign == '*' ? Law.TIMES : Law.BY);
            }
            return false;
        }

        private boolean readAtom(int nested) {
            int sign = nextSign();
            if (sign == '[') {
                return opens(nested) && readSum(nested + 1) && passes(']');
            }
            if (isDigit(sign)) {
                int value = readNumber(4);
                if (value < 0) {
                    return false;
                }
                draft.add(value);
                return true;
            }
            int letter = sign == END ? NONE : LAW_LETTERS.indexOf((char) sign);
            if (letter < 0) {
                return false;
            }
            at++;
            draft.add(Law.LETTER - letter);
            return true;
        }
    }

    private static final class FigureReader extends Reader {
        final Figure draft = new Figure();

        FigureReader(Tape tape) {
            super(tape);
        }

        boolean readAll() {
            at = 0;
            draft.size = 0;
            return readRow(0) && nextSign() == END && draft.size <= MOST_STEPS;
        }

        private boolean readRow(int nested) {
            for (int steps = 0; steps < MOST_BYTES; steps++) {
                if (!readStep(nested)) {
                    return false;
                }
                if (!passes(';')) {
                    return true;
                }
            }
            return false;
        }

        private boolean readStep(int nested) {
            int sign = nextSign();
            if (sign == 'w') {
                at++;
                draft.add(NOTHING);
                return true;
            }
            if (sign == 'o' || sign == 'u') {
                at++;
                return readPlace(sign == 'o');
            }
            if (sign >= '2' && sign <= '9') {
                at++;
                return readRepeated(sign - '0', nested);
            }
            return false;
        }

        private boolean readPlace(boolean over) {
            int sign = nextSign();
            if (!isDigit(sign)) {
                return false;
            }
            at++;
            draft.add(letterOf(sign - '0', over));
            return true;
        }

        private boolean readRepeated(int n, int nested) {
            if (nextSign() != '(' || nested >= MOST_NESTED_IN_FIGURE) {
                return false;
            }
            at++;
            int from = draft.size;
            if (!readRow(nested + 1) || !passes(')')) {
                return false;
            }
            draft.repeatFrom(from, n);
            return true;
        }
    }

    // ---- what the texts tell

    private static final class Green {
        final int[] rules = new int[ITEM_SORTS];
        final int[] traits = new int[ROW * ITEM_SORTS];
        int dancers;

        void clear() {
            dancers = 0;
            for (int i = 0; i < ITEM_SORTS; i++) {
                rules[i] = RULE_WITHOUT[i];
            }
        }

        /** The index at which the traits of the new dancer begin. */
        int addDancer() {
            int from = dancers * ITEM_SORTS;
            for (int i = 0; i < ITEM_SORTS && from + i < traits.length; i++) {
                traits[from + i] = TRAIT_WITHOUT[i];
            }
            dancers++;
            return from;
        }

        int trait(int dancer, int sort) {
            int i = dancer * ITEM_SORTS + sort;
            return i >= 0 && i < traits.length ? traits[i] : 0;
        }

        int tight() {
            return rules[0];
        }

        int coinsAtFirst() {
            return rules[1];
        }

        int wind() {
            return rules[2];
        }

        void copyFrom(Green other) {
            System.arraycopy(other.rules, 0, rules, 0, ITEM_SORTS);
            System.arraycopy(other.traits, 0, traits, 0, ROW * ITEM_SORTS);
            dancers = other.dancers;
        }
    }

    private static final class Law {
        /** Codes from 0 on are numbers; LETTER less 0 .. 5 are the letters. */
        static final int LETTER = -1;
        static final int PLUS = -11;
        static final int MINUS = -12;
        static final int TIMES = -13;
        static final int BY = -14;
        static final int ALIKE = -15;
        static final int LESS = -16;
        static final int MORE = -17;
        static final int AND = -18;
        static final int OR = -19;
        static final int NOT = -20;
        static final int TEST = -21;
        static final int ANSWER = -22;

        /** No text makes more codes than it has bytes: y and : make one, each other sign one at most. */
        final int[] codes = new int[MOST_BYTES];
        int size;
        private final int[] letters = new int[ROW];
        private final int[] stack = new int[STACK];
        private int height;

        void add(int code) {
            if (size < MOST_BYTES) {
                codes[size] = code;
                size++;
            }
        }

        void copyFrom(Law other) {
            System.arraycopy(other.codes, 0, codes, 0, MOST_BYTES);
            size = other.size;
        }

        int worth(int t, int s, int u, int n, int h, int b) {
            letters[0] = t;
            letters[1] = s;
            letters[2] = u;
            letters[3] = n;
            letters[4] = h;
            letters[5] = b;
            height = 0;
            boolean passing = false;
            for (int i = 0; i < size; i++) {
                int code = codes[i];
                if (passing) {
                    passing = code != ANSWER;
                } else if (code == ANSWER) {
                    return pop();
                } else if (code == TEST) {
                    passing = pop() == 0;
                } else {
                    run(code);
                }
            }
            return 0;
        }

        private void push(int value) {
            if (height < STACK) {
                stack[height] = value;
                height++;
            }
        }

        private int pop() {
            if (height <= 0) {
                return 0;
            }
            height--;
            return stack[height];
        }

        private void run(int code) {
            if (code >= 0) {
                push(code);
            } else if (code > PLUS) {
                push(letters[(LETTER - code) & 7]);
            } else if (code == NOT) {
                push(1 - pop());
            } else {
                int right = pop();
                int left = pop();
                push(held(joined(code, left, right)));
            }
        }

        private static long joined(int code, int left, int right) {
            switch (code) {
                case PLUS:
                    return (long) left + right;
                case MINUS:
                    return (long) left - right;
                case TIMES:
                    return (long) left * right;
                case BY:
                    return right == 0 ? 0 : left / right;
                case ALIKE:
                    return left == right ? 1 : 0;
                case LESS:
                    return left < right ? 1 : 0;
                case MORE:
                    return left > right ? 1 : 0;
                case AND:
                    return left & right;
                default:
                    return left | right;
            }
        }

        private static int held(long value) {
            return (int) Math.max(-MOST_NUMBER, Math.min(MOST_NUMBER, value));
        }
    }

    private static final class Figure {
        private final int[] letters = new int[MOST_STEPS];

        /** While a text is read it may be more than 48, of which the first 48 are kept. */
        int size;

        void add(int letter) {
            if (size < MOST_STEPS) {
                letters[size] = letter;
            }
            size++;
        }

        void repeatFrom(int from, int n) {
            int block = size - from;
            for (int i = size; i < MOST_STEPS && i < from + n * block; i++) {
                letters[i] = letters[i - block];
            }
            size = from + n * block;
        }

        int letterAt(int i) {
            return i >= 0 && i < size && i < MOST_STEPS ? letters[i] : NONE;
        }

        void copyFrom(Figure other) {
            System.arraycopy(other.letters, 0, letters, 0, MOST_STEPS);
            size = other.size;
        }

        /** Where the one who stands at a place stands behind all steps. */
        int follow(int place, int places) {
            int spot = place;
            for (int i = 0; i < size && i < MOST_STEPS; i++) {
                int from = letters[i] >> 1;
                int to = from + 1 == places ? 0 : from + 1;
                if (from < places) {
                    spot = spot == from ? to : spot == to ? from : spot;
                }
            }
            return spot;
        }
    }

    // ---- the ring as it is at one time

    private static final class Pole {
        int places;
        int size;
        int coins;
        int beat;
        final int[] who = new int[ROW];
        final int[] lengths = new int[ROW];

        /** As they came; one number holds letter, dancers, what it took and layer, which keeps acts small. */
        private final int[] crossings = new int[ENDLESS_CROSSINGS];

        /** The entry of a beat is at that beat modulo 60. */
        private final int[] entries = new int[MOST_ENTRIES];

        static int letterIn(int crossing) {
            return crossing & 15;
        }

        static int placeIn(int crossing) {
            return crossing >> 1 & 7;
        }

        static int overIn(int crossing) {
            return crossing >> 4 & 7;
        }

        static int underIn(int crossing) {
            return crossing >> 7 & 7;
        }

        static int tookIn(int crossing) {
            return crossing >> 10 & 15;
        }

        static int layerIn(int crossing) {
            return crossing >> 14 & 63;
        }

        void beginAs(Green green) {
            places = green.dancers;
            size = 0;
            coins = green.coinsAtFirst();
            beat = 0;
            for (int d = 0; d < ROW; d++) {
                who[d] = d;
                lengths[d] = green.trait(d, LENGTH);
            }
        }

        /** All but the log, which nothing apart asks for. */
        void standAs(Pole other) {
            places = other.places;
            size = other.size;
            coins = other.coins;
            beat = other.beat;
            System.arraycopy(other.who, 0, who, 0, ROW);
            System.arraycopy(other.lengths, 0, lengths, 0, ROW);
            System.arraycopy(other.crossings, 0, crossings, 0, ENDLESS_CROSSINGS);
        }

        void copyFrom(Pole other) {
            standAs(other);
            System.arraycopy(other.entries, 0, entries, 0, MOST_ENTRIES);
        }

        boolean hasPlace(int place) {
            return place >= 0 && place < places;
        }

        private int nextPlace(int place) {
            return place + 1 < places ? place + 1 : 0;
        }

        /** Bits of the places whose crossings touch one at this place. */
        private int nearOf(int place) {
            int ahead = place > 0 ? place - 1 : places - 1;
            return 1 << ahead | 1 << place | 1 << nextPlace(place);
        }

        int placeOf(int dancer) {
            for (int place = 0; place < places; place++) {
                if (who[place] == dancer) {
                    return place;
                }
            }
            return NONE;
        }

        // -- crossings

        int overBy(int letter) {
            int place = letter >> 1 & 7;
            return who[(letter & 1) == 0 ? place : nextPlace(place)];
        }

        int underBy(int letter) {
            return overBy(letter ^ 1);
        }

        /** The index of the crossing that this one undoes, or NONE. */
        int undoneBy(int letter) {
            int near = nearOf(letter >> 1);
            for (int i = size - 1; i >= 0; i--) {
                if ((near >> placeIn(crossings[i]) & 1) != 0) {
                    return letterIn(crossings[i]) == (letter ^ 1) ? i : NONE;
                }
            }
            return NONE;
        }

        int layerAt(int place) {
            int near = nearOf(place);
            int highest = 0;
            for (int i = 0; i < size; i++) {
                if ((near >> placeIn(crossings[i]) & 1) != 0) {
                    highest = Math.max(highest, layerIn(crossings[i]));
                }
            }
            return highest + 1;
        }

        /** 0, or the status of what hinders a crossing that undoes none. */
        int hindrance(int letter, int price) {
            if (leftOf(overBy(letter)) < price || leftOf(underBy(letter)) < price) {
                return TOO_SHORT;
            }
            return size >= MOST_CROSSINGS ? FULL : 0;
        }

        void putIn(int letter, int took) {
            if (size >= ENDLESS_CROSSINGS) {
                return;
            }
            int dancers = overBy(letter) << 4 | underBy(letter) << 7;
            crossings[size] = letter | dancers | took << 10 | layerAt(letter >> 1) << 14;
            size++;
            change(letter >> 1);
        }

        void takeOut(int index) {
            if (index < 0 || index >= size) {
                return;
            }
            int place = placeIn(crossings[index]);
            for (int i = index; i < size - 1; i++) {
                crossings[i] = crossings[i + 1];
            }
            size--;
            change(place);
        }

        private void change(int place) {
            if (!hasPlace(place)) {
                return;
            }
            int one = who[place];
            who[place] = who[nextPlace(place)];
            who[nextPlace(place)] = one;
        }

        void moveEndless(int letter) {
            if (!hasPlace(letter >> 1)) {
                return;
            }
            int index = undoneBy(letter);
            if (index >= 0) {
                takeOut(index);
            } else {
                putIn(letter, 0);
            }
        }

        /** The letter that undoes, of those that could be the last, the one with the highest letter. */
        int undoingLetter() {
            int loose = looseLetters();
            for (int letter = 2 * places - 1; letter >= 0; letter--) {
                if ((loose >> letter & 1) != 0) {
                    return letter ^ 1;
                }
            }
            return NOTHING;
        }

        // -- the log

        void noteBeat(int letter, int undid) {
            if (beat >= 0) {
                entries[beat % MOST_ENTRIES] = letter | undid << 5 | size << 6;
            }
            beat++;
        }

        int entryCount() {
            return Math.min(beat, MOST_ENTRIES);
        }

        int entryAgo(int i) {
            int when = beat - 1 - i;
            return when < 0 ? 0 : entries[when % MOST_ENTRIES];
        }

        // -- questions

        /** The crossings in the plait's own order, each as it is held here. */
        void tellOrder(int[] told) {
            long untold = (1L << size) - 1;
            for (int i = 0; i < size && i < told.length; i++) {
                int next = toldNext(untold);
                told[i] = crossings[next];
                untold &= ~(1L << next);
            }
        }

        private int toldNext(long untold) {
            int barred = 0;
            int next = 0;
            int lowest = NOTHING;
            for (int i = 0; i < size; i++) {
                if ((untold >> i & 1) != 0) {
                    int place = placeIn(crossings[i]);
                    if ((barred >> place & 1) == 0 && letterIn(crossings[i]) < lowest) {
                        lowest = letterIn(crossings[i]);
                        next = i;
                    }
                    barred |= nearOf(place);
                }
            }
            return next;
        }

        /** Whether both plaits have the same letters in order. */
        boolean plaitsLike(Pole other) {
            if (size != other.size) {
                return false;
            }
            long untold = (1L << size) - 1;
            long untoldThere = untold;
            for (int i = 0; i < size; i++) {
                int next = toldNext(untold);
                int nextThere = other.toldNext(untoldThere);
                if (letterIn(crossings[next]) != letterIn(other.crossings[nextThere])) {
                    return false;
                }
                untold &= ~(1L << next);
                untoldThere &= ~(1L << nextThere);
            }
            return true;
        }

        int looseLetters() {
            int barred = 0;
            int letters = 0;
            for (int i = size - 1; i >= 0; i--) {
                int place = placeIn(crossings[i]);
                if ((barred >> place & 1) == 0) {
                    letters |= 1 << letterIn(crossings[i]);
                }
                barred |= nearOf(place);
            }
            return letters;
        }

        int firstLetters() {
            int barred = 0;
            int letters = 0;
            for (int i = 0; i < size; i++) {
                int place = placeIn(crossings[i]);
                if ((barred >> place & 1) == 0) {
                    letters |= 1 << letterIn(crossings[i]);
                }
                barred |= nearOf(place);
            }
            return letters;
        }

        int toLetOut(int dancer) {
            int barring = 0;
            int undone = 0;
            for (int i = 0; i < size; i++) {
                int place = placeIn(crossings[i]);
                if (isOf(i, dancer) || (barring >> place & 1) != 0) {
                    undone++;
                    barring |= nearOf(place);
                }
            }
            return undone;
        }

        private boolean isOf(int i, int dancer) {
            return overIn(crossings[i]) == dancer || underIn(crossings[i]) == dancer;
        }

        int oversOf(int one, int other) {
            int overs = 0;
            for (int i = 0; i < size; i++) {
                if (overIn(crossings[i]) == one && underIn(crossings[i]) == other) {
                    overs++;
                }
            }
            return overs;
        }

        int crossingsOf(int dancer) {
            int his = 0;
            for (int i = 0; i < size; i++) {
                if (isOf(i, dancer)) {
                    his++;
                }
            }
            return his;
        }

        int takenOf(int dancer) {
            int taken = 0;
            for (int i = 0; i < size; i++) {
                if (isOf(i, dancer)) {
                    taken += tookIn(crossings[i]);
                }
            }
            return taken;
        }

        int takenOfAll() {
            int taken = 0;
            for (int i = 0; i < size; i++) {
                taken += 2 * tookIn(crossings[i]);
            }
            return taken;
        }

        int leftOf(int dancer) {
            return lengths[dancer & 7] - takenOf(dancer);
        }

        int depth() {
            int highest = 0;
            for (int i = 0; i < size; i++) {
                highest = Math.max(highest, layerIn(crossings[i]));
            }
            return highest;
        }

        int twist() {
            int twist = 0;
            for (int i = 0; i < size; i++) {
                twist += (letterIn(crossings[i]) & 1) == 0 ? 1 : -1;
            }
            return twist;
        }

        int orderOfAll() {
            int order = 0;
            for (int place = 0; place < places; place++) {
                order = 10 * order + who[place];
            }
            return order;
        }

        int freeDancers() {
            int bits = (1 << places) - 1;
            for (int i = 0; i < size; i++) {
                bits &= ~(1 << overIn(crossings[i]) | 1 << underIn(crossings[i]));
            }
            return bits;
        }

        int atHome() {
            int home = 0;
            for (int place = 0; place < places; place++) {
                if (who[place] == place) {
                    home++;
                }
            }
            return home;
        }
    }

    /** The latest acts, each as all was ahead of it. */
    private static final class Acts {
        private final Pole[] ahead = new Pole[MOST_ACTS];
        private int next;
        int size;

        Acts() {
            for (int i = 0; i < MOST_ACTS; i++) {
                ahead[i] = new Pole();
            }
        }

        void keep(Pole pole) {
            ahead[next].copyFrom(pole);
            next = next + 1 < MOST_ACTS ? next + 1 : 0;
            size = Math.min(MOST_ACTS, size + 1);
        }

        void takeBack(Pole pole) {
            next = next > 0 ? next - 1 : MOST_ACTS - 1;
            size--;
            pole.copyFrom(ahead[next]);
        }

        void forget() {
            size = 0;
        }
    }

    /**
     * The fewest crossings to a told order, without a search: each dancer goes so many places on or back round the ring,
     * all together 0, and two of them cross as often as these numbers make them pass one another, no oftener. In the best
     * way nobody goes a whole round, so each has two numbers to choose from: on by so many, or back by the rest of a round.
     */
    private static final class Way {
        /** Above the crossings of any way: nobody goes a whole round, so each two of seven cross twice at most. */
        private static final int MORE_THAN_ANY_WAY = 1000;

        private int places;
        private final int[] who = new int[ROW];
        private final int[] goals = new int[ROW];
        private final int[] shifts = new int[ROW];

        /** False: no such order. */
        boolean aim(int order, Pole pole) {
            places = pole.places;
            System.arraycopy(pole.who, 0, who, 0, ROW);
            int rest = order;
            int met = 0;
            for (int place = places - 1; place >= 0; place--) {
                int dancer = rest % 10;
                if (dancer < 0 || dancer >= places || (met >> dancer & 1) != 0) {
                    return false;
                }
                met |= 1 << dancer;
                goals[dancer] = place;
                rest /= 10;
            }
            return rest == 0;
        }

        int fewest() {
            if (places < 1) {
                return 0;
            }
            int together = 0;
            for (int place = 0; place < places; place++) {
                shifts[place] = Math.floorMod(goals[who[place] & 7] - place, places);
                together += shifts[place];
            }
            int goingBack = together / places;
            int fewest = MORE_THAN_ANY_WAY;
            for (int backs = 0; backs < 1 << places; backs++) {
                if (Integer.bitCount(backs) == goingBack) {
                    fewest = Math.min(fewest, crossingsWith(backs));
                }
            }
            return fewest;
        }

        private int crossingsWith(int backs) {
            int all = 0;
            for (int i = 0; i < places; i++) {
                for (int j = i + 1; j < places; j++) {
                    int apart = endOf(i, backs) - endOf(j, backs);
                    all += places < 1 ? 0 : Math.abs(Math.floorDiv(apart, places) + 1);
                }
            }
            return all;
        }

        private int endOf(int place, int backs) {
            return place + shifts[place] - ((backs >> place & 1) == 0 ? 0 : places);
        }

        int firstPlace() {
            int fewest = fewest();
            for (int place = 0; place < places; place++) {
                change(place);
                int then = fewest();
                change(place);
                if (then < fewest) {
                    return place;
                }
            }
            return NONE;
        }

        private void change(int place) {
            int next = place + 1 < places ? place + 1 : 0;
            int one = who[place];
            who[place] = who[next];
            who[next] = one;
        }
    }
}
