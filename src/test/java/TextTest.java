import java.util.Random;

/** Faults of greens, laws and figures: the document's cases one by one, then texts by chance with slips in them. */
public final class TextTest {
    private static final int TEXTS = 12000;

    private TextTest() {
    }

    public static void main(String[] args) {
        greens();
        laws();
        figures();
        byChance();
        Check.finish();
    }

    private static void due(int sort, String text, int want) {
        Check.due("fault(" + sort + ") of '" + text + "'", want, Check.fault(new RibbonPole(), sort, text));
    }

    private static void greens() {
        due(0, "", 0);
        due(0, "   ", 3);
        due(0, "d;d", 3);
        due(0, "d;d;", 4);
        due(0, "d;d;d", -1);
        due(0, "d;d;d;", 6);
        due(0, " d ; d ; d ", -1);
        due(0, "d;d;d;s", -1);
        due(0, "d;s;d;d", -1);
        due(0, "s;d;s;d;d", 4);
        due(0, "d;d;d;d;d;d;d", -1);
        due(0, "d;d;d;d;d;d;d;d", 14);
        due(0, "s;d;d;d;d;d;d;d;d", 16);
        due(0, "s;d;d;d;d;d;d;d;", 16);
        due(0, "d;d;;d", 4);
        due(0, "dd", 1);
        due(0, "st1k0w0;d;d;d", -1);
        due(0, "st9k99w9;d;d;d", -1);
        due(0, "st0;d;d;d", 2);
        due(0, "st01;d;d;d", -1);
        due(0, "st00;d;d;d", 3);
        due(0, "st10;d;d;d", 3);
        due(0, "st100;d;d;d", 4);
        due(0, "st001;d;d;d", 4);
        due(0, "sk100;d;d;d", 4);
        due(0, "sw10;d;d;d", 3);
        due(0, "sw09;d;d;d", -1);
        due(0, "st1t1", 3);
        due(0, "sc1", 1);
        due(0, "s t 1 2", 6);
        due(0, "s t", 3);
        due(0, "s t;", 3);
        due(0, "dc7l99s9;d;d", -1);
        due(0, "dc8", 2);
        due(0, "dc08", 3);
        due(0, "dc80", 3);
        due(0, "dc800", 4);
        due(0, "dl0", 2);
        due(0, "dl00", 3);
        due(0, "dl01;d;d", -1);
        due(0, "dl99;d;d", -1);
        due(0, "ds10", 3);
        due(0, "dc1l1c1", 5);
        due(0, "ds1s1", 3);
        due(0, "dk1", 1);
        due(0, "D", 0);
        due(0, "d;d;d\t", 5);
        due(0, "d;d;d\u00e4", 5);
    }

    private static void laws() {
        due(1, "", 0);
        due(1, "y", 1);
        due(1, "y:", 2);
        due(1, "y:1", -1);
        due(1, "y:1234", -1);
        due(1, "y:12345", 6);
        due(1, "y:1 2", 4);
        due(1, "y:-1", 2);
        due(1, "y:1;", 4);
        due(1, "y:1;y:2", -1);
        due(1, "y:1;;", 4);
        due(1, "z:1", 0);
        due(1, "y1", 1);
        due(1, "y:t?1", 3);
        due(1, "y:t=1", 5);
        due(1, "y:t=1;", 5);
        due(1, "y:t=1?2", -1);
        due(1, "y:t=1?2=3", 7);
        due(1, "y:t=1=2?1", 5);
        due(1, "y:t=1?2?3", 7);
        due(1, "y:t=1&s>2|u<3?n", -1);
        due(1, "y:t&s=1?1", 3);
        due(1, "y:(t)=1?1", 4);
        due(1, "y:(t=1)?1", -1);
        due(1, "y:(t=1)", 7);
        due(1, "y:(t=1)+1?1", 7);
        due(1, "y:!t=1?1", -1);
        due(1, "y:!t?1", 4);
        due(1, "y:[t]=1?1", -1);
        due(1, "y:[t=1]?1", 4);
        due(1, "y:[t]", -1);
        due(1, "y:t=(1)?1", 4);
        due(1, "y:a", 2);
        due(1, "y:t+s-u*n/h+b", -1);
        due(1, "y:t+", 4);
        due(1, "y:t++1", 4);
        due(1, "y:[[[[[[t]]]]]]", -1);
        due(1, "y:[[[[[[[t]]]]]]]", 8);
        due(1, "y:!!!!!!t=1?1", -1);
        due(1, "y:!!!!!!!t=1?1", 8);
        due(1, "y:!!!!!![t]=1?1", 8);
        due(1, "y:((((((t=1))))))?1", -1);
        due(1, "y:(((((((t=1)))))))?1", 8);
        due(1, "y:!(!(!([t]=1)))?1", 8);
        due(1, "y:!(!(!(t=1)))&!(!([[t]]=1))?[[[[[[1]]]]]]", -1);
        due(1, " y : ! ( t = 1 ) & [ s ] > 12 ? 3 ; y : 4 ", -1);
        due(1, "y:1)", 3);
        due(1, "y:1]", 3);
    }

    private static void figures() {
        due(2, "", 0);
        due(2, "o9;u9;w", -1);
        due(2, "o", 1);
        due(2, "o w", 2);
        due(2, "o12", 2);
        due(2, "w;", 2);
        due(2, ";w", 0);
        due(2, "0(w)", 0);
        due(2, "1(w)", 0);
        due(2, "2(w)", -1);
        due(2, "9(w)", -1);
        due(2, "22(w)", 1);
        due(2, "2w", 1);
        due(2, "2()", 2);
        due(2, "2(w", 3);
        due(2, "2(w))", 4);
        due(2, "2(w)w", 4);
        due(2, "w)", 1);
        due(2, "(w)", 0);
        due(2, "2(2(2(w)))", -1);
        due(2, "2(2(2(2(w))))", 7);
        due(2, "2(2(2(2", 7);
        due(2, "2(2(2(w);2(w)));2(2(2(w)))", -1);
        due(2, "6(8(w))", -1);
        due(2, "7(7(w))", 7);
        due(2, "7(7(w)) ", 8);
        due(2, "7(7(w));x", 8);
        due(2, "9(9(9(w)));", 11);
        due(2, "6(8(w));w", 9);
        due(2, " 2 ( o 1 ; w ) ; u 0 ", -1);
    }

    private static void byChance() {
        Random random = new Random(7);
        RibbonPole pole = new RibbonPole();
        for (int i = 0; i < TEXTS; i++) {
            Texts texts = new Texts(random);
            int sort = random.nextInt(3);
            Texts.Figure figure = texts.anyFigure(10);
            boolean slip = random.nextInt(5) > 0;
            String text = sort == 0 ? texts.green().text() : sort == 1 ? texts.law().text() : figure.text();
            text = slip ? slipped(text, random) : text;
            text = text.length() > 240 ? text.substring(0, 240) : text;
            if (sort == 2 && text.equals(figure.text())) {
                due(pole, sort, text, Grammar.faultOfFigure(text, figure.steps().length));
            } else if (sort == 2) {
                // How many steps a figure with a slip has is not known, unless it can't go on anyway.
                int want = Grammar.faultOfFigure(text, 0);
                due(pole, sort, text, want == -1 ? Grammar.faultOfFigure(text, stepsOf(text)) : want);
            } else {
                due(pole, sort, text, sort == 0 ? Grammar.faultOfGreen(text) : Grammar.faultOfLaw(text));
            }
        }
    }

    private static void due(RibbonPole pole, int sort, String text, int want) {
        Check.due("fault(" + sort + ") of '" + text + "'", want, Check.fault(pole, sort, text));
    }

    /** How many steps a right figure has: rounds are written out until there are none. */
    private static int stepsOf(String text) {
        String steps = text.replace(" ", "").replaceAll("[ou][0-9]", "w").replace(";", "");
        while (steps.contains("(")) {
            int open = steps.lastIndexOf('(');
            int close = steps.indexOf(')', open);
            String inner = steps.substring(open + 1, close).repeat(steps.charAt(open - 1) - '0');
            steps = steps.substring(0, open - 1) + inner + steps.substring(close + 1);
        }
        return steps.length();
    }

    private static String slipped(String text, Random random) {
        StringBuilder signs = new StringBuilder(text);
        String others = "sdtkwcluonhby:;?|&!()[]=<>+-*/0123456789 ";
        for (int n = 1 + random.nextInt(2); n > 0; n--) {
            int at = random.nextInt(signs.length() + 1);
            char sign = others.charAt(random.nextInt(others.length()));
            int sort = random.nextInt(5);
            if (sort == 0 || at == signs.length()) {
                signs.insert(at, sign);
            } else if (sort == 1) {
                signs.setCharAt(at, sign);
            } else if (sort == 2) {
                signs.deleteCharAt(at);
            } else if (sort == 3) {
                signs.setLength(at);
            } else {
                int to = Math.min(signs.length(), at + 1 + random.nextInt(6));
                signs.insert(at, signs.substring(at, to));
            }
        }
        return signs.toString();
    }
}
