import java.util.ArrayDeque;
import java.util.ArrayList;
import java.util.Arrays;
import java.util.HashMap;
import java.util.List;
import java.util.Map;
import java.util.NoSuchElementException;

/**
 * The document said once more, as slowly and plainly as it reads: lists that are copied, definitions gone through from
 * the start at each question. Laws and figures come as trees and rows, not as texts.
 */
final class NaivePole {
    static final int NONE = -1;
    static final int HIDDEN = -1000000;

    /** The worth of a law by its six letters t s u n h b. */
    interface Worth {
        int of(int[] letters);
    }

    /** One crossing in the plait. */
    record Crossing(int letter, int over, int under, int took) {
        int place() {
            return letter / 2;
        }
    }

    /** All that acts change. */
    static final class Now {
        List<Integer> ring = new ArrayList<>();
        List<Integer> lengths = new ArrayList<>();
        List<Crossing> plait = new ArrayList<>();
        List<int[]> log = new ArrayList<>();
        int coins;
        int beat;

        Now copy() {
            Now other = new Now();
            other.ring = new ArrayList<>(ring);
            other.lengths = new ArrayList<>(lengths);
            other.plait = new ArrayList<>(plait);
            other.log = new ArrayList<>(log);
            other.coins = coins;
            other.beat = beat;
            return other;
        }
    }

    int tight;
    int wind;
    int[] colours = {};
    int[] sures = {};
    int[] firstLengths = {};
    Now now = new Now();
    Now kept = null;
    List<Now> acts = new ArrayList<>();
    List<Worth> laws = new ArrayList<>();
    int holding = NONE;
    List<int[]> figures = new ArrayList<>();
    int[] status = new int[5];
    List<int[]> sightings = new ArrayList<>();

    int places() {
        return colours.length;
    }

    boolean isPlace(int spot) {
        return spot >= 0 && spot < places();
    }

    boolean isFigure(int figure) {
        return figure >= 0 && figure < figures.size();
    }

    int green(int tight, int coins, int wind, int[] colours, int[] lengths, int[] sures) {
        this.tight = tight;
        this.wind = wind;
        this.colours = colours;
        this.sures = sures;
        this.firstLengths = lengths;
        now = atFirst();
        now.coins = coins;
        kept = null;
        acts.clear();
        sightings.clear();
        return places();
    }

    Now atFirst() {
        Now first = new Now();
        for (int d = 0; d < places(); d++) {
            first.ring.add(d);
            first.lengths.add(firstLengths[d]);
        }
        return first;
    }

    int law(Worth worth) {
        if (laws.size() == 4) {
            return NONE;
        }
        laws.add(worth);
        return laws.size() - 1;
    }

    int figure(int[] steps) {
        if (figures.size() == 6) {
            return NONE;
        }
        figures.add(steps);
        return figures.size() - 1;
    }

    boolean hold(int law) {
        if (law < NONE || law >= laws.size()) {
            return false;
        }
        holding = law;
        return true;
    }

    // ---- crossings

    boolean touch(int one, int other) {
        return one == other || (one + 1) % places() == other || (other + 1) % places() == one;
    }

    List<Integer> layers(List<Crossing> plait) {
        List<Integer> layers = new ArrayList<>();
        for (Crossing one : plait) {
            layers.add(layerBehind(plait, layers, one.place()));
        }
        return layers;
    }

    int layerBehind(List<Crossing> plait, List<Integer> layers, int place) {
        int highest = 0;
        for (int i = 0; i < layers.size(); i++) {
            if (touch(plait.get(i).place(), place)) {
                highest = Math.max(highest, layers.get(i));
            }
        }
        return highest + 1;
    }

    int undoes(Now at, int letter) {
        for (int i = 0; i < at.plait.size(); i++) {
            Crossing one = at.plait.get(i);
            if (one.place() == letter / 2 && one.letter() != letter) {
                boolean free = true;
                for (int j = i + 1; j < at.plait.size(); j++) {
                    free &= !touch(at.plait.get(j).place(), one.place());
                }
                if (free) {
                    return i;
                }
            }
        }
        return NONE;
    }

    int there(Now at, int letter) {
        return at.ring.get(letter / 2);
    }

    int next(Now at, int letter) {
        return at.ring.get((letter / 2 + 1) % places());
    }

    int over(Now at, int letter) {
        return letter % 2 == 0 ? there(at, letter) : next(at, letter);
    }

    int under(Now at, int letter) {
        return letter % 2 == 0 ? next(at, letter) : there(at, letter);
    }

    int takes(Now at, int letter) {
        if (holding == NONE) {
            return tight;
        }
        int[] letters = {tight, sures[over(at, letter)], sures[under(at, letter)], at.plait.size(),
            layerBehind(at.plait, layers(at.plait), letter / 2), at.beat % 100};
        int worth = laws.get(holding).of(letters);
        return worth < 1 ? 1 : worth > 9 ? 9 : worth;
    }

    int left(Now at, int dancer) {
        int left = at.lengths.get(dancer);
        for (Crossing one : at.plait) {
            left -= one.over() == dancer || one.under() == dancer ? one.took() : 0;
        }
        return left;
    }

    /** 0, or the status of what is in the way. */
    int inTheWay(Now at, int letter) {
        if (undoes(at, letter) != NONE) {
            return 0;
        }
        int takes = takes(at, letter);
        if (left(at, over(at, letter)) < takes || left(at, under(at, letter)) < takes) {
            return 2;
        }
        return at.plait.size() >= 40 ? 3 : 0;
    }

    boolean move(Now at, int letter, boolean endless) {
        int undone = undoes(at, letter);
        if (undone != NONE) {
            at.plait.remove(undone);
        } else {
            int takes = endless ? 0 : takes(at, letter);
            at.plait.add(new Crossing(letter, over(at, letter), under(at, letter), takes));
        }
        int one = there(at, letter);
        at.ring.set(letter / 2, next(at, letter));
        at.ring.set((letter / 2 + 1) % places(), one);
        return undone != NONE;
    }

    List<Integer> order(List<Crossing> plait) {
        List<Integer> told = new ArrayList<>();
        boolean[] isTold = new boolean[plait.size()];
        while (told.size() < plait.size()) {
            int best = NONE;
            for (int i = 0; i < plait.size(); i++) {
                boolean can = !isTold[i];
                for (int j = 0; j < i && can; j++) {
                    can = isTold[j] || !touch(plait.get(i).place(), plait.get(j).place());
                }
                if (can && (best == NONE || plait.get(i).letter() < plait.get(best).letter())) {
                    best = i;
                }
            }
            told.add(best);
            isTold[best] = true;
        }
        return told;
    }

    List<Integer> loose(List<Crossing> plait, boolean last) {
        List<Integer> letters = new ArrayList<>();
        for (int i = 0; i < plait.size(); i++) {
            boolean free = true;
            for (int j = 0; j < plait.size(); j++) {
                boolean beyond = last ? j > i : j < i;
                free &= !(beyond && touch(plait.get(i).place(), plait.get(j).place()));
            }
            if (free) {
                letters.add(plait.get(i).letter());
            }
        }
        return letters;
    }

    int undoing() {
        int highest = NONE;
        for (int letter : loose(now.plait, true)) {
            highest = Math.max(highest, letter);
        }
        return highest % 2 == 0 ? highest + 1 : highest - 1;
    }

    // ---- acts

    int refuse(int sort) {
        status[sort]++;
        return NONE;
    }

    void keep() {
        acts.add(now.copy());
        if (acts.size() > 40) {
            acts.remove(0);
        }
    }

    int takeBeat(int letter) {
        keep();
        boolean undid = letter < 2 * places() && move(now, letter, false);
        now.log.add(new int[] {letter < 2 * places() ? letter : 20, undid ? 1 : 0, now.plait.size()});
        now.coins = undid ? Math.min(999, now.coins + 1) : now.coins;
        now.beat++;
        return undid ? 1 : 0;
    }

    int cross(int spot, boolean isOver) {
        if (places() == 0) {
            return refuse(0);
        }
        if (!isPlace(spot)) {
            return refuse(1);
        }
        int letter = 2 * spot + (isOver ? 0 : 1);
        int way = inTheWay(now, letter);
        if (way != 0) {
            return refuse(way);
        }
        return now.beat >= 999 ? refuse(4) : takeBeat(letter);
    }

    int beat() {
        if (places() == 0) {
            return refuse(0);
        }
        if (now.beat >= 999) {
            return refuse(4);
        }
        takeBeat(20);
        return now.beat;
    }

    int dance(int figure) {
        if (places() == 0 || !isFigure(figure)) {
            return refuse(0);
        }
        if (now.beat >= 999) {
            return refuse(4);
        }
        int done = 0;
        for (int letter : figures.get(figure)) {
            if (now.beat >= 999 || letter / 2 < places() && inTheWay(now, letter) != 0) {
                break;
            }
            takeBeat(letter);
            done++;
        }
        return done;
    }

    int down(int n) {
        if (places() == 0) {
            return refuse(0);
        }
        if (n < 1 || n > 9) {
            return refuse(1);
        }
        if (now.plait.isEmpty()) {
            return refuse(2);
        }
        if (now.beat >= 999) {
            return refuse(4);
        }
        int done = 0;
        while (done < n && !now.plait.isEmpty() && now.beat < 999) {
            takeBeat(undoing());
            done++;
        }
        return done;
    }

    int longer(int dancer, int n) {
        if (dancer < 0 || dancer >= places()) {
            return refuse(0);
        }
        if (n < 1 || n > 20) {
            return refuse(1);
        }
        if (now.coins < n || now.lengths.get(dancer) + n > 99) {
            return refuse(3);
        }
        keep();
        now.coins -= n;
        now.lengths.set(dancer, now.lengths.get(dancer) + n);
        return now.lengths.get(dancer);
    }

    int give(int n) {
        if (places() == 0) {
            return refuse(0);
        }
        if (n < 1 || n > 50 || now.coins + n > 999) {
            return refuse(1);
        }
        keep();
        now.coins += n;
        return now.coins;
    }

    private long x;

    private int draw(int j) {
        x = x * 6364136223846793005L + 1442695040888963407L;
        return (int) ((x >>> 33) % j);
    }

    int years(int n, long seed) {
        if (places() == 0 || n < 1 || n > 60 || now.beat + n > 999) {
            return NONE;
        }
        x = seed;
        for (int i = 0; i < n; i++) {
            int place = draw(places());
            int letter = 2 * place + draw(2);
            takeBeat(inTheWay(now, letter) == 0 ? letter : 20);
            if (draw(10) < wind && !now.plait.isEmpty()) {
                move(now, undoing(), false);
            }
        }
        return now.beat;
    }

    int undo() {
        if (acts.isEmpty()) {
            return NONE;
        }
        now = acts.remove(acts.size() - 1);
        return acts.size();
    }

    int image() {
        if (places() == 0) {
            return NONE;
        }
        kept = now.copy();
        return now.beat;
    }

    int back() {
        if (kept == null) {
            return NONE;
        }
        now = kept.copy();
        acts.clear();
        return now.beat;
    }

    // ---- questions

    int rule(int what) {
        return places() == 0 ? NONE : what == 0 ? tight : what == 1 ? now.coins : what == 2 ? wind : NONE;
    }

    int stands(int spot) {
        return isPlace(spot) ? now.ring.get(spot) : NONE;
    }

    int dancer(int dancer, int what) {
        if (dancer < 0 || dancer >= places() || what < 0 || what > 5) {
            throw new NoSuchElementException();
        }
        int[] all = {colours[dancer], now.lengths.get(dancer), sures[dancer], now.ring.indexOf(dancer),
            left(now, dancer), crossingsOf(dancer)};
        return all[what];
    }

    int crossingsOf(int dancer) {
        int n = 0;
        for (Crossing one : now.plait) {
            n += one.over() == dancer || one.under() == dancer ? 1 : 0;
        }
        return n;
    }

    int step(int figure, int i) {
        if (!isFigure(figure)) {
            return NONE;
        }
        int[] steps = figures.get(figure);
        return i == NONE ? steps.length : i >= 0 && i < steps.length ? steps[i] : NONE;
    }

    int plait(int i, int what) {
        if (i < 0 || i >= now.plait.size() || what < 0 || what > 4) {
            return NONE;
        }
        int index = order(now.plait).get(i);
        Crossing one = now.plait.get(index);
        return new int[] {one.letter(), one.over(), one.under(), one.took(), layers(now.plait).get(index)}[what];
    }

    int log(int i, int what) {
        int size = now.log.size();
        if (i < 0 || i >= Math.min(60, size) || what < 0 || what > 2) {
            return NONE;
        }
        return now.log.get(size - 1 - i)[what];
    }

    int takes(int spot, boolean isOver) {
        return isPlace(spot) ? takes(now, 2 * spot + (isOver ? 0 : 1)) : NONE;
    }

    int bound(int one, int other) {
        if (!isPlace(one) || !isPlace(other) || one == other) {
            return HIDDEN;
        }
        int n = 0;
        for (Crossing c : now.plait) {
            n += c.over() == one && c.under() == other ? 1 : c.over() == other && c.under() == one ? -1 : 0;
        }
        return n;
    }

    int letOut(int dancer) {
        if (!isPlace(dancer)) {
            return NONE;
        }
        boolean[] out = new boolean[now.plait.size()];
        for (int i = 0; i < out.length; i++) {
            out[i] = now.plait.get(i).over() == dancer || now.plait.get(i).under() == dancer;
        }
        for (int again = 0; again <= out.length; again++) {
            for (int i = 0; i < out.length; i++) {
                for (int j = i + 1; j < out.length; j++) {
                    out[j] |= out[i] && touch(now.plait.get(i).place(), now.plait.get(j).place());
                }
            }
        }
        int n = 0;
        for (boolean one : out) {
            n += one ? 1 : 0;
        }
        return n;
    }

    void endless(Now at, int[] steps) {
        for (int letter : steps) {
            if (letter / 2 < places()) {
                move(at, letter, true);
            }
        }
    }

    int behind(int figure, int n, int dancer) {
        if (!isFigure(figure) || !isPlace(dancer) || n < 0 || n > 99) {
            return NONE;
        }
        Now at = now.copy();
        for (int i = 0; i < n; i++) {
            at.plait.clear();
            endless(at, figures.get(figure));
        }
        return at.ring.indexOf(dancer);
    }

    int rounds(int figure) {
        if (places() == 0 || !isFigure(figure)) {
            return NONE;
        }
        Now at = now.copy();
        int n = 0;
        do {
            at.plait.clear();
            endless(at, figures.get(figure));
            n++;
        } while (!at.ring.equals(now.ring));
        return n;
    }

    List<Integer> alone(int figure) {
        Now at = atFirst();
        endless(at, figures.get(figure));
        List<Integer> letters = new ArrayList<>();
        for (int i : order(at.plait)) {
            letters.add(at.plait.get(i).letter());
        }
        return letters;
    }

    int knot(int figure) {
        return places() == 0 || !isFigure(figure) ? NONE : alone(figure).size();
    }

    int same(int figure, int other) {
        if (places() == 0 || !isFigure(figure) || !isFigure(other)) {
            return NONE;
        }
        return alone(figure).equals(alone(other)) ? 1 : 0;
    }

    int nearest(int order, int what) {
        if (places() == 0 || what < 0 || what > 1 || order < 0) {
            return NONE;
        }
        String row = String.valueOf(order);
        row = row.length() < places() ? "0".repeat(places() - row.length()) + row : row;
        char[] letters = row.toCharArray();
        Arrays.sort(letters);
        if (!new String(letters).equals("0123456".substring(0, places()))) {
            return NONE;
        }
        Map<String, Integer> far = farFrom(row);
        StringBuilder mine = new StringBuilder();
        for (int dancer : now.ring) {
            mine.append(dancer);
        }
        int n = far.get(mine.toString());
        if (what == 0) {
            return n;
        }
        for (int place = 0; place < places(); place++) {
            if (far.get(changed(mine.toString(), place)) == n - 1) {
                return place;
            }
        }
        return NONE;
    }

    private String changed(String row, int place) {
        char[] signs = row.toCharArray();
        char one = signs[place];
        signs[place] = signs[(place + 1) % signs.length];
        signs[(place + 1) % signs.length] = one;
        return new String(signs);
    }

    private final Map<String, Map<String, Integer>> known = new HashMap<>();

    private Map<String, Integer> farFrom(String row) {
        if (known.containsKey(row)) {
            return known.get(row);
        }
        Map<String, Integer> far = new HashMap<>();
        ArrayDeque<String> queue = new ArrayDeque<>();
        far.put(row, 0);
        queue.add(row);
        while (!queue.isEmpty()) {
            String one = queue.remove();
            for (int place = 0; place < row.length(); place++) {
                String next = changed(one, place);
                if (!far.containsKey(next)) {
                    far.put(next, far.get(one) + 1);
                    queue.add(next);
                }
            }
        }
        known.put(row, far);
        return far;
    }

    int times(int figure) {
        if (places() == 0 || !isFigure(figure)) {
            return NONE;
        }
        Now at = now.copy();
        for (int n = 0; n < 99; n++) {
            for (int letter : figures.get(figure)) {
                if (letter / 2 < places()) {
                    if (inTheWay(at, letter) != 0) {
                        return n;
                    }
                    move(at, letter, false);
                }
                at.beat++;
            }
        }
        return 99;
    }

    int seen(int dancer, int spot, int n, boolean is) {
        if (!isPlace(dancer) || !isPlace(spot) || n < 1 || n > 9 || sightings.size() == 10) {
            return NONE;
        }
        sightings.add(new int[] {dancer, spot, n, is ? 1 : 0});
        return sightings.size();
    }

    int placeFromFirst(int figure, int n, int dancer) {
        Now at = atFirst();
        for (int i = 0; i < n; i++) {
            at.plait.clear();
            endless(at, figures.get(figure));
        }
        return at.ring.indexOf(dancer);
    }

    int fits() {
        if (places() == 0) {
            return NONE;
        }
        int bits = 0;
        for (int f = 0; f < figures.size(); f++) {
            boolean fits = true;
            for (int[] one : sightings) {
                fits &= (placeFromFirst(f, one[2], one[0]) == one[1]) == (one[3] == 1);
            }
            bits += fits ? 1 << f : 0;
        }
        return bits;
    }

    int ask(int dancer) {
        int fits = fits();
        if (!isPlace(dancer) || fits <= 0) {
            return NONE;
        }
        int best = 0;
        int fewest = 99;
        for (int n = 1; n <= 9; n++) {
            int[] agree = new int[places()];
            int most = 0;
            for (int f = 0; f < figures.size(); f++) {
                if ((fits & 1 << f) != 0) {
                    int place = placeFromFirst(f, n, dancer);
                    agree[place]++;
                    most = Math.max(most, agree[place]);
                }
            }
            if (most < fewest) {
                fewest = most;
                best = n;
            }
        }
        return best;
    }

    int stripe(int i) {
        return i < 0 || i >= now.plait.size() ? NONE : colours[now.plait.get(order(now.plait).get(i)).over()];
    }

    int game(int spot, int x, int y, int what) {
        if (!isPlace(spot) || x < 0 || x > 2 || y < 0 || y > 2 || what < 0 || what > 1) {
            return HIDDEN;
        }
        if (x == 2 || y == 2) {
            return 0;
        }
        if (x == 0 && y == 0) {
            return -2;
        }
        if (x == 1 && y == 1) {
            return -1;
        }
        int letter = x == 0 ? 2 * spot : 2 * spot + 1;
        if (inTheWay(now, letter) != 0) {
            return -3;
        }
        if (undoes(now, letter) != NONE) {
            return 4;
        }
        int asked = what == 0 ? there(now, letter) : next(now, letter);
        return (over(now, letter) == asked ? 6 : 5) - takes(now, letter);
    }

    int rests(int spot, int i) {
        if (!isPlace(spot)) {
            return NONE;
        }
        List<Integer> all = new ArrayList<>();
        for (int x = 0; x < 3; x++) {
            for (int y = 0; y < 3; y++) {
                boolean rests = true;
                for (int z = 0; z < 3; z++) {
                    rests &= game(spot, z, y, 0) <= game(spot, x, y, 0);
                    rests &= game(spot, x, z, 1) <= game(spot, x, y, 1);
                }
                if (rests) {
                    all.add(10 * x + y);
                }
            }
        }
        return i == NONE ? all.size() : i >= 0 && i < all.size() ? all.get(i) : NONE;
    }

    int odds(int figure, int chance, int v) {
        if (places() == 0 || !isFigure(figure) || figures.get(figure).length > 8 || chance < 0 || chance > 100
                || v < 0 || v > 60) {
            return NONE;
        }
        return (int) odds(now.copy(), figures.get(figure), 0, 1000000000L, chance, v);
    }

    private long odds(Now at, int[] steps, int i, long parts, int chance, int v) {
        if (i == steps.length) {
            return at.plait.size() <= v ? parts : 0;
        }
        if (steps[i] / 2 >= places()) {
            return odds(at, steps, i + 1, parts, chance, v);
        }
        long turned = parts * chance / 100;
        Now straight = at.copy();
        move(straight, steps[i], true);
        Now other = at.copy();
        move(other, steps[i] % 2 == 0 ? steps[i] + 1 : steps[i] - 1, true);
        return odds(straight, steps, i + 1, parts - turned, chance, v) + odds(other, steps, i + 1, turned, chance, v);
    }

    int takenBy(int dancer) {
        return now.lengths.get(dancer) - left(now, dancer);
    }

    int takenByAll() {
        int all = 0;
        for (int d = 0; d < places(); d++) {
            all += takenBy(d);
        }
        return all;
    }

    int shares(int dancer, int c) {
        if (!isPlace(dancer) || c < 0 || c > 999) {
            return NONE;
        }
        return takenByAll() == 0 ? 0 : c * takenBy(dancer) / takenByAll();
    }

    int bits(List<Integer> letters) {
        int bits = 0;
        for (int letter : letters) {
            bits |= 1 << letter;
        }
        return bits;
    }

    int most(int what) {
        if (places() == 0 || what < 0 || what > 12) {
            return HIDDEN;
        }
        int longest = 0;
        int shortest = 0;
        int busiest = 0;
        int surest = 0;
        int order = 0;
        int free = 0;
        int home = 0;
        for (int d = 0; d < places(); d++) {
            longest = left(now, d) > left(now, longest) ? d : longest;
            shortest = left(now, d) < left(now, shortest) ? d : shortest;
            busiest = crossingsOf(d) > crossingsOf(busiest) ? d : busiest;
            surest = sures[d] > sures[surest] ? d : surest;
            order = 10 * order + now.ring.get(d);
            free |= crossingsOf(d) == 0 ? 1 << d : 0;
            home += now.ring.get(d) == d ? 1 : 0;
        }
        int depth = 0;
        int twist = 0;
        int changes = 0;
        for (int i = 0; i < now.plait.size(); i++) {
            depth = Math.max(depth, layers(now.plait).get(i));
            twist += now.plait.get(i).letter() % 2 == 0 ? 1 : -1;
        }
        for (int i = 1; what == 9 && i < now.plait.size(); i++) {
            changes += stripe(i) != stripe(i - 1) ? 1 : 0;
        }
        return new int[] {longest, shortest, busiest, surest, depth, order, bits(loose(now.plait, true)),
            bits(loose(now.plait, false)), free, changes, twist, takenByAll(), home}[what];
    }

    int count(int what, int bytes) {
        if (what < 0 || what > 9) {
            return HIDDEN;
        }
        return new int[] {places(), now.plait.size(), laws.size(), figures.size(), bytes, holding, now.beat,
            sightings.size(), Math.min(60, now.log.size()), acts.size()}[what];
    }
}
