/** What the tests share: it counts wrong answers, prints them, and ends with code 1 if there was one. */
final class Check {
    private static int wrong = 0;
    private static int right = 0;

    private Check() {
    }

    static void due(String call, long want, long got) {
        if (want == got) {
            right++;
            return;
        }
        wrong++;
        if (wrong <= 50) {
            System.out.println(call + " answered " + got + ", due is " + want);
        }
    }

    static void due(String call, boolean want, boolean got) {
        due(call, want ? 1 : 0, got ? 1 : 0);
    }

    static int rights() {
        return right;
    }

    static boolean anyWrong() {
        return wrong != 0;
    }

    static void finish() {
        System.out.println(wrong == 0 ? right + " answers are as due" : wrong + " answers are not as due");
        if (wrong != 0) {
            System.exit(1);
        }
    }

    /** Puts a text on an empty tape; false, if the tape refused it. */
    static boolean tape(RibbonPole pole, String text) {
        pole.end(0);
        for (int from = 0; from < text.length(); from += 20) {
            int[] words = new int[5];
            for (int i = 0; i < 20 && from + i < text.length(); i++) {
                words[i / 4] |= (text.charAt(from + i) & 255) << 24 - 8 * (i % 4);
            }
            if (pole.feed(words[0], words[1], words[2], words[3], words[4]) == RibbonPole.NONE) {
                return false;
            }
        }
        return true;
    }

    static int fault(RibbonPole pole, int sort, String text) {
        tape(pole, text);
        int fault = pole.fault(sort);
        pole.end(0);
        return fault;
    }

    static int text(RibbonPole pole, int sort, String text) {
        tape(pole, text);
        int answer = pole.text(sort);
        pole.end(0);
        return answer;
    }
}
