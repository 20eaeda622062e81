import java.util.ArrayDeque;
import java.util.HashMap;
import java.util.Map;

/** The fewest crossings to each order that three to seven can stand in, against a search through all orders. */
public final class NearestTest {
    private static final int MOST_CALLS = 500;

    private final int dancers;
    private final Map<String, Integer> far = new HashMap<>();
    private RibbonPole pole;
    private int calls = MOST_CALLS;

    private NearestTest(int dancers) {
        this.dancers = dancers;
    }

    public static void main(String[] args) {
        for (int dancers = 3; dancers <= 7; dancers++) {
            NearestTest test = new NearestTest(dancers);
            test.search();
            for (String order : test.far.keySet()) {
                test.ask(order);
            }
        }
        Check.due("orders of 3 to 7, asked twice", 2 * (6 + 24 + 120 + 720 + 5040), Check.rights());
        Check.finish();
    }

    private void search() {
        String first = "0123456".substring(0, dancers);
        ArrayDeque<String> open = new ArrayDeque<>();
        far.put(first, 0);
        open.add(first);
        while (!open.isEmpty()) {
            String order = open.remove();
            for (int place = 0; place < dancers; place++) {
                char one = order.charAt(place);
                char other = order.charAt((place + 1) % dancers);
                String next = exchanged(order, one, other);
                if (far.putIfAbsent(next, far.get(order) + 1) == null) {
                    open.add(next);
                }
            }
        }
    }

    private static String exchanged(String order, char one, char other) {
        return order.replace(one, 'x').replace(other, one).replace('x', other);
    }

    /** All stand at their numbers, and it is as far to an order as from it. */
    private void ask(String order) {
        if (calls >= MOST_CALLS) {
            pole = new RibbonPole();
            Check.text(pole, 0, "d;d;d;d;d;d;d".substring(0, 2 * dancers - 1));
            calls = 0;
        }
        calls += 2;
        int number = Integer.parseInt(order);
        Check.due("nearest(" + order + ", 0)", far.get(order), pole.nearest(number, 0));
        Check.due("nearest(" + order + ", 1)", firstPlace(order), pole.nearest(number, 1));
    }

    /** Behind a crossing at a place the two there have each other's numbers, which is the same with these exchanged. */
    private int firstPlace(String order) {
        for (int place = 0; place < dancers; place++) {
            String rest = exchanged(order, (char) ('0' + place), (char) ('0' + (place + 1) % dancers));
            if (far.get(rest) < far.get(order)) {
                return place;
            }
        }
        return RibbonPole.NONE;
    }
}
