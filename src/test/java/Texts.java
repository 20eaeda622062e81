import java.util.ArrayList;
import java.util.List;
import java.util.Random;

/** Makes texts by chance, each with what it means, so that no reader is needed to know it. */
final class Texts {
    private final Random random;
    private final int blanks;

    Texts(Random random) {
        this.random = random;
        this.blanks = random.nextInt(3) == 0 ? 8 : 1000;
    }

    /** A text and its worth. */
    record Law(String text, NaivePole.Worth worth) {
    }

    /** A text and its steps. */
    record Figure(String text, int[] steps) {
    }

    /** A text and what a green of it is. */
    record Green(String text, int[] rules, int[] colours, int[] lengths, int[] sures) {
    }

    private record Sum(String text, NaivePole.Worth worth) {
    }

    private String gap() {
        return random.nextInt(blanks) == 0 ? " ".repeat(1 + random.nextInt(2)) : "";
    }

    /** Signs with blanks between; a number is one sign. */
    private String join(Object... signs) {
        StringBuilder text = new StringBuilder(gap());
        for (Object sign : signs) {
            text.append(sign).append(gap());
        }
        return text.toString();
    }

    private static int held(long value) {
        return (int) Math.min(1000000, Math.max(-1000000, value));
    }

    // ---- laws

    private Sum atom(int nested) {
        int sort = random.nextInt(nested < 6 ? 5 : 4);
        if (sort == 4) {
            Sum inner = sum(nested + 1);
            return new Sum(join("[", inner.text(), "]"), inner.worth());
        }
        if (sort >= 2) {
            int letter = random.nextInt(6);
            return new Sum(join("tsunhb".charAt(letter)), letters -> letters[letter]);
        }
        int number = random.nextInt(random.nextInt(4) == 0 ? 10000 : 10);
        String digits = String.valueOf(number);
        digits = random.nextInt(8) == 0 && digits.length() < 4 ? "0" + digits : digits;
        return new Sum(join(digits), letters -> number);
    }

    private Sum term(int nested) {
        Sum all = atom(nested);
        for (int more = random.nextInt(3); more > 1 || more == 1 && random.nextBoolean(); more--) {
            Sum left = all;
            Sum right = atom(nested);
            all = random.nextBoolean()
                ? new Sum(join(left.text(), "*", right.text()), l -> held((long) left.worth().of(l) * right.worth().of(l)))
                : new Sum(join(left.text(), "/", right.text()),
                    l -> right.worth().of(l) == 0 ? 0 : left.worth().of(l) / right.worth().of(l));
        }
        return all;
    }

    private Sum sum(int nested) {
        Sum all = term(nested);
        for (int more = random.nextInt(3); more > 0; more--) {
            Sum left = all;
            Sum right = term(nested);
            boolean plus = random.nextBoolean();
            all = new Sum(join(left.text(), plus ? "+" : "-", right.text()),
                l -> held((long) left.worth().of(l) + (plus ? right.worth().of(l) : -right.worth().of(l))));
        }
        return all;
    }

    private Sum unit(int nested) {
        int sort = random.nextInt(nested < 6 ? 4 : 2);
        if (sort == 3) {
            Sum inner = unit(nested + 1);
            return new Sum(join("!", inner.text()), l -> 1 - inner.worth().of(l));
        }
        if (sort == 2) {
            Sum inner = condition(nested + 1);
            return new Sum(join("(", inner.text(), ")"), inner.worth());
        }
        Sum left = sum(nested);
        Sum right = sum(nested);
        int sign = random.nextInt(3);
        return new Sum(join(left.text(), "=<>".charAt(sign), right.text()), l -> {
            int compared = Integer.compare(left.worth().of(l), right.worth().of(l));
            return compared == (sign == 0 ? 0 : sign == 1 ? -1 : 1) ? 1 : 0;
        });
    }

    private Sum truth(int nested) {
        Sum all = unit(nested);
        for (int more = random.nextInt(2); more > 0; more--) {
            Sum left = all;
            Sum right = unit(nested);
            all = new Sum(join(left.text(), "&", right.text()), l -> left.worth().of(l) * right.worth().of(l));
        }
        return all;
    }

    private Sum condition(int nested) {
        Sum all = truth(nested);
        for (int more = random.nextInt(2); more > 0; more--) {
            Sum left = all;
            Sum right = truth(nested);
            all = new Sum(join(left.text(), "|", right.text()), l -> Math.max(left.worth().of(l), right.worth().of(l)));
        }
        return all;
    }

    private Law oneLaw() {
        StringBuilder text = new StringBuilder();
        List<Sum> conditions = new ArrayList<>();
        List<Sum> sums = new ArrayList<>();
        int clauses = 1 + random.nextInt(4);
        for (int i = 0; i < clauses; i++) {
            boolean free = random.nextInt(4) == 0;
            Sum condition = free ? new Sum("", l -> 1) : condition(0);
            Sum sum = sum(0);
            conditions.add(condition);
            sums.add(sum);
            text.append(i == 0 ? "" : ";");
            text.append(free ? join("y", ":", sum.text()) : join("y", ":", condition.text(), "?", sum.text()));
        }
        return new Law(text.toString(), letters -> {
            for (int i = 0; i < sums.size(); i++) {
                if (conditions.get(i).worth().of(letters) != 0) {
                    return sums.get(i).worth().of(letters);
                }
            }
            return 0;
        });
    }

    Law law() {
        Law law = oneLaw();
        while (law.text().length() > 240) {
            law = oneLaw();
        }
        return law;
    }

    // ---- figures

    private String row(List<Integer> steps, int nested, int most) {
        StringBuilder text = new StringBuilder();
        int n = 1 + random.nextInt(most);
        for (int i = 0; i < n; i++) {
            text.append(i == 0 ? "" : join(";"));
            int sort = random.nextInt(nested < 3 ? 9 : 7);
            if (sort >= 7) {
                int times = 2 + random.nextInt(random.nextInt(5) == 0 ? 8 : 2);
                List<Integer> inner = new ArrayList<>();
                text.append(join(times, "(", row(inner, nested + 1, 3), ")"));
                for (int k = 0; k < times; k++) {
                    steps.addAll(inner);
                }
            } else if (sort == 6) {
                text.append(join("w"));
                steps.add(20);
            } else {
                int digit = random.nextInt(random.nextInt(5) == 0 ? 10 : 4);
                text.append(join(sort < 3 ? "o" : "u", digit));
                steps.add(2 * digit + (sort < 3 ? 0 : 1));
            }
        }
        return text.toString();
    }

    /** A figure that may have more than 48 steps. */
    Figure anyFigure(int most) {
        List<Integer> steps = new ArrayList<>();
        String text = row(steps, 0, most);
        int[] letters = new int[steps.size()];
        for (int i = 0; i < letters.length; i++) {
            letters[i] = steps.get(i);
        }
        return new Figure(text, letters);
    }

    Figure figure(int most) {
        Figure figure = anyFigure(most);
        while (figure.text().length() > 240 || figure.steps().length > 48) {
            figure = anyFigure(most);
        }
        return figure;
    }

    // ---- greens

    private String items(String letters, int[][] bounds, int[] values) {
        StringBuilder text = new StringBuilder();
        String left = letters;
        for (int n = random.nextInt(4); n > 0; n--) {
            char letter = left.charAt(random.nextInt(left.length()));
            left = left.replace(String.valueOf(letter), "");
            int sort = letters.indexOf(letter);
            values[sort] = bounds[sort][0] + random.nextInt(bounds[sort][1] - bounds[sort][0] + 1);
            String digits = String.valueOf(values[sort]);
            digits = digits.length() == 1 && random.nextInt(4) == 0 ? "0" + digits : digits;
            text.append(join(letter, digits));
        }
        return text.toString();
    }

    private Green oneGreen() {
        int dancers = 3 + random.nextInt(5);
        int rulesAt = random.nextInt(dancers + 2);
        int[] rules = {2, 20, 2};
        int[][] traits = new int[3][dancers];
        StringBuilder text = new StringBuilder();
        for (int i = 0; i <= dancers; i++) {
            if (i == rulesAt) {
                String items = items("tkw", new int[][] {{1, 9}, {0, 99}, {0, 9}}, rules);
                text.append(text.length() == 0 ? "" : ";").append(join("s", items));
            }
            if (i < dancers) {
                int[] values = {0, 30, 5};
                String items = items("cls", new int[][] {{0, 7}, {1, 99}, {0, 9}}, values);
                text.append(text.length() == 0 ? "" : ";").append(join("d", items));
                for (int sort = 0; sort < 3; sort++) {
                    traits[sort][i] = values[sort];
                }
            }
        }
        return new Green(text.toString(), rules, traits[0], traits[1], traits[2]);
    }

    Green green() {
        Green green = oneGreen();
        while (green.text().length() > 240) {
            green = oneGreen();
        }
        return green;
    }
}
