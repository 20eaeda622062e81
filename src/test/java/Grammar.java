import java.util.ArrayList;
import java.util.HashSet;
import java.util.List;
import java.util.Set;
import java.util.regex.Matcher;
import java.util.regex.Pattern;

/**
 * Where a text can't go on, by going through all ways of the document's grammar at once: a way is the row of signs that
 * are still to come. For greens it is a pattern, and a look at each item.
 */
final class Grammar {
    private static final String DIGITS = "0123456789";

    /** What is to come: signs, or names of what they stand for with a number behind them. */
    private record Way(String first, Way rest) {
    }

    private Grammar() {
    }

    static int faultOfLaw(String text) {
        return fault(text, "LAW0");
    }

    static int faultOfFigure(String text, int steps) {
        int fault = fault(text, "ROW0");
        return fault == -1 && steps > 48 ? text.length() : fault;
    }

    private static int fault(String text, String start) {
        Set<Way> ways = new HashSet<>();
        ways.add(new Way(start, null));
        for (int i = 0; i < text.length(); i++) {
            ways = behind(ways, text.charAt(i));
            if (ways.isEmpty()) {
                return i;
            }
        }
        for (Way way : spread(ways)) {
            if (way == null) {
                return -1;
            }
        }
        return text.length();
    }

    private static Set<Way> behind(Set<Way> ways, char sign) {
        Set<Way> next = new HashSet<>();
        if (sign == ' ') {
            for (Way way : ways) {
                // A number ends at a blank.
                next.add(way != null && way.first().startsWith("MORE") ? way.rest() : way);
            }
            return next;
        }
        for (Way way : spread(ways)) {
            if (way != null && way.first().indexOf(sign) >= 0) {
                next.add(way.rest());
            }
        }
        return next;
    }

    /** All ways told by what their next sign can be; a way with nothing to come is null. */
    private static Set<Way> spread(Set<Way> ways) {
        Set<Way> all = new HashSet<>();
        List<Way> open = new ArrayList<>(ways);
        while (!open.isEmpty()) {
            Way way = open.remove(open.size() - 1);
            if (way == null || !isName(way.first())) {
                all.add(way);
                continue;
            }
            for (String[] row : rows(way.first())) {
                Way next = way.rest();
                for (int i = row.length - 1; i >= 0; i--) {
                    next = new Way(row[i], next);
                }
                open.add(next);
            }
        }
        return all;
    }

    private static boolean isName(String first) {
        return first.charAt(0) >= 'A' && first.charAt(0) <= 'Z';
    }

    private static String[][] rows(String name) {
        int n = name.charAt(name.length() - 1) - '0';
        String within = String.valueOf(n + 1);
        switch (name.substring(0, name.length() - 1)) {
            case "LAW":
                return each("CLAUSE0 CLAUSES0");
            case "CLAUSES":
                return each("", "; CLAUSE0 CLAUSES0");
            case "CLAUSE":
                return each("y : SUM0", "y : CONDITION0 ? SUM0");
            case "CONDITION":
                return each("TRUTH" + n + " TRUTHS" + n);
            case "TRUTHS":
                return each("", "| TRUTH" + n + " TRUTHS" + n);
            case "TRUTH":
                return each("UNIT" + n + " UNITS" + n);
            case "UNITS":
                return each("", "& UNIT" + n + " UNITS" + n);
            case "UNIT":
                String compared = "SUM" + n + " =<> SUM" + n;
                return n < 6 ? each(compared, "! UNIT" + within, "( CONDITION" + within + " )") : each(compared);
            case "SUM":
                return each("TERM" + n + " TERMS" + n);
            case "TERMS":
                return each("", "+- TERM" + n + " TERMS" + n);
            case "TERM":
                return each("ATOM" + n + " ATOMS" + n);
            case "ATOMS":
                return each("", "*/ ATOM" + n + " ATOMS" + n);
            case "ATOM":
                String plain = DIGITS + " MORE3";
                return n < 6 ? each(plain, "tsunhb", "[ SUM" + within + " ]") : each(plain, "tsunhb");
            case "MORE":
                return n == 0 ? each("") : each("", DIGITS + " MORE" + (n - 1));
            case "ROW":
                return each("STEP" + n + " STEPS" + n);
            case "STEPS":
                return each("", "; STEP" + n + " STEPS" + n);
            case "STEP":
                // The fourth ( is at fault, not the digit ahead of it.
                String again = n < 3 ? "23456789 ( ROW" + within + " )" : "23456789 \0";
                return each("ou " + DIGITS, "w", again);
            default:
                throw new IllegalStateException(name);
        }
    }

    private static String[][] each(String... rows) {
        String[][] all = new String[rows.length][];
        for (int i = 0; i < rows.length; i++) {
            all[i] = rows[i].isEmpty() ? new String[0] : rows[i].split(" ");
        }
        return all;
    }

    // ---- greens

    private static final String CLAUSE = "(?:s(?: *[tkw] *[0-9]{1,2})*|d(?: *[cls] *[0-9]{1,2})*) *";
    private static final Pattern GREEN = Pattern.compile(" *" + CLAUSE + "(?:; *" + CLAUSE + ")*");
    private static final Pattern TOKEN = Pattern.compile("[a-z;]|[0-9]+");

    static int faultOfGreen(String text) {
        int end = 0;
        while (end < text.length() && goesOn(text.substring(0, end + 1))) {
            end++;
        }
        int item = faultOfItem(text, end);
        if (item >= 0) {
            return item;
        }
        if (end < text.length()) {
            return end;
        }
        boolean whole = GREEN.matcher(text).matches();
        return whole && text.replaceAll("[^d]", "").length() >= 3 ? -1 : text.length();
    }

    private static boolean goesOn(String start) {
        Matcher matcher = GREEN.matcher(start);
        return matcher.matches() || matcher.hitEnd();
    }

    /** The first clause, letter or number ahead of the end that is one too many or out of bounds. */
    private static int faultOfItem(String text, int end) {
        Matcher token = TOKEN.matcher(text);
        int dancers = 0;
        String met = "";
        String clauses = "";
        String ahead = ";";
        while (token.find() && token.start() < end) {
            String sign = token.group();
            if (sign.equals(";")) {
                met = "";
            } else if (ahead.equals(";")) {
                clauses += sign;
                dancers += sign.equals("d") ? 1 : 0;
                if (dancers > 7 || clauses.replace("d", "").length() > 1) {
                    return token.start();
                }
            } else if (Character.isLetter(sign.charAt(0))) {
                if (met.contains(sign)) {
                    return token.start();
                }
                met += sign;
            } else if (sign.length() < 3 && !within(clauses, ahead, Integer.parseInt(sign))) {
                return token.end() - 1;
            }
            ahead = sign;
        }
        return -1;
    }

    private static boolean within(String clauses, String letter, int value) {
        String name = clauses.substring(clauses.length() - 1) + letter;
        switch (name) {
            case "st":
                return value >= 1 && value <= 9;
            case "sk":
                return true;
            case "dc":
                return value <= 7;
            case "dl":
                return value >= 1;
            default:
                return value <= 9;
        }
    }
}
