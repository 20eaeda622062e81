/** Boundaries of the tape and of greens, laws and figures told as texts: promises 1 to 6, 9, 10 and the first part of Terms. */
final class TextBoundaries {
    private static final int NONE = RibbonPole.NONE;
    private static final int GREEN = 0;
    private static final int LAW = 1;
    private static final int FIGURE = 2;

    private TextBoundaries() {
    }

    static void all() {
        constants();
        noGreenAtFirst();
        tape();
        sorts();
        clausesOfGreens();
        itemsOfRules();
        itemsOfDancers();
        lawsAsTexts();
        worthOfLaws();
        figuresAsTexts();
        blanks();
        faults();
        textsTaken();
        greenAnew();
        lawThatHolds();
        stepsUnrolled();
        rules();
    }

    private static void says(int promise, String words) {
        Sentence.says(promise, words);
    }

    private static void due(String call, long want, long got) {
        Sentence.due(call, want, got);
    }

    private static void due(String call, boolean want, boolean got) {
        Sentence.due(call, want, got);
    }

    private static void fault(int sort, String text, int want) {
        due("fault(" + sort + ") of '" + text + "'", want, Check.fault(new RibbonPole(), sort, text));
    }

    private static void right(int sort, String text) {
        fault(sort, text, NONE);
    }

    /** At fault at its end. */
    private static void endsEarly(int sort, String text) {
        fault(sort, text, text.length());
    }

    private static int worth(String law) {
        return Poles.holding(Poles.green("st2;ds7;ds3;d"), law).takes(0, true);
    }

    private static void worth(String law, int want) {
        due("takes by '" + law + "'", want, worth(law));
    }

    // ---- 1 to 3

    private static void constants() {
        says(1, "NONE = -1 : None; refused.");
        due("NONE", -1, RibbonPole.NONE);
        says(1, "HIDDEN = -1000000 : Not told.");
        due("HIDDEN", -1000000, RibbonPole.HIDDEN);
    }

    private static void noGreenAtFirst() {
        says(1, "No GREEN.");
        RibbonPole pole = new RibbonPole();
        due("count(0)", 0, pole.count(0));
        due("rule(0)", NONE, pole.rule(0));
        due("stands(0)", NONE, pole.stands(0));
        due("dancer(0, 0) throws", true, Poles.throwsNoSuch(pole, 0, 0));
        due("plait(0, 0)", NONE, pole.plait(0, 0));
        due("log(0, 0)", NONE, pole.log(0, 0));
        due("bound(0, 1)", RibbonPole.HIDDEN, pole.bound(0, 1));
        due("game(0, 2, 2, 0)", RibbonPole.HIDDEN, pole.game(0, 2, 2, 0));
        due("rests(0, NONE)", NONE, pole.rests(0, NONE));
        due("shares(0, 0)", NONE, pole.shares(0, 0));
        due("letOut(0)", NONE, pole.letOut(0));
        due("seen(0, 0, 1, true)", NONE, pole.seen(0, 0, 1, true));
        due("back()", NONE, pole.back());
        due("undo()", NONE, pole.undo());
    }

    private static void tape() {
        bytesInOrder();
        bytesOfNought();
        tapeFull();
        tapeCut();
        tapeCutRefused();
    }

    private static void bytesInOrder() {
        says(2, "Twenty bytes more come to the TAPE (of each number the highest first;");
        RibbonPole pole = new RibbonPole();
        // y:t= 2?3; y:4+ 5*6; y:78
        due("feed", 20, pole.feed(0x793A743D, 0x323F333B, 0x793A342B, 0x352A363B, 0x793A3738));
        due("fault(1)", NONE, pole.fault(LAW));
        due("feed of a fifth digit's place", 22, pole.feed(0, 0, 0, 0, 0x3930));
        due("fault(1) of four digits", NONE, pole.fault(LAW));
        due("feed of signs above 127", 26, pole.feed(-1, 0, 0, 0, 0));
        due("fault(1) at the first of them", 22, pole.fault(LAW));
    }

    private static void bytesOfNought() {
        says(2, "bytes of 0 are left out): how many it has");
        RibbonPole pole = new RibbonPole();
        due("feed of none", 0, pole.feed(0, 0, 0, 0, 0));
        due("feed of the highest", 1, pole.feed(0x79000000, 0, 0, 0, 0));
        due("feed of the next", 2, pole.feed(0, 0x003A0000, 0, 0, 0));
        due("feed of the third", 3, pole.feed(0, 0, 0x00003100, 0, 0));
        due("feed of the lowest", 4, pole.feed(0, 0, 0, 0x00000032, 0));
        due("feed of two with 0 between", 6, pole.feed(0, 0, 0, 0, 0x3B000079));
        due("fault(1) of y:12;y", 6, pole.fault(LAW));
    }

    private static void tapeFull() {
        says(2, "NONE: more than 240.");
        RibbonPole pole = new RibbonPole();
        for (int i = 1; i <= 11; i++) {
            due("feed", 20 * i, pole.feed(-1, -1, -1, -1, -1));
        }
        due("feed of 19", 239, pole.feed(-1, -1, -1, -1, 0x20202000));
        due("feed of two at 239", NONE, pole.feed(0x20000000, 0, 0, 0, 0x20));
        due("nothing came", 239, pole.count(4));
        due("feed of one at 239", 240, pole.feed(0x80, 0, 0, 0, 0));
        for (int i = 0; i < 5; i++) {
            int one = 0x20 << 8 * (i % 4);
            due("feed of one at 240", NONE, pole.feed(i == 0 ? one : 0, i == 1 ? one : 0, i == 2 ? one : 0, i == 3 ? one : 0,
                i == 4 ? one : 0));
        }
        due("feed of none at 240", 240, pole.feed(0, 0, 0, 0, 0));
        due("feed of twenty at 240", NONE, pole.feed(-1, -1, -1, -1, -1));
        due("nothing came", 240, pole.count(4));
    }

    private static void tapeCut() {
        says(3, "The TAPE has its first n bytes alone.");
        RibbonPole pole = new RibbonPole();
        due("end(0) of an empty tape", true, pole.end(0));
        Check.tape(pole, "d;d;d;d");
        due("end(7) of seven", true, pole.end(7));
        due("seven", 7, pole.count(4));
        due("end(5)", true, pole.end(5));
        due("five", 5, pole.count(4));
        due("feed goes on behind the fifth", 6, pole.feed(0x78, 0, 0, 0, 0));
        due("fault(0)", 5, pole.fault(GREEN));
        Check.tape(pole, "d;d  ");
        due("end(3)", true, pole.end(3));
        due("the blanks cut off are no more of it", 3, pole.fault(GREEN));
        due("end(0)", true, pole.end(0));
        due("none", 0, pole.count(4));
        due("fault(0) of an empty tape", 0, pole.fault(GREEN));
    }

    private static void tapeCutRefused() {
        says(3, "False: n.");
        RibbonPole pole = new RibbonPole();
        due("end(1) of an empty tape", false, pole.end(1));
        Check.tape(pole, "d;d;d");
        due("end(6) of five", false, pole.end(6));
        due("end(-1)", false, pole.end(-1));
        due("end of the lowest", false, pole.end(Integer.MIN_VALUE));
        due("end of the highest", false, pole.end(Integer.MAX_VALUE));
        due("five", 5, pole.count(4));
        due("fault(0)", NONE, pole.fault(GREEN));
    }

    // ---- 4

    private static void sorts() {
        says(4, "NONE: none.");
        right(GREEN, "d;d;d");
        right(LAW, "y:1");
        right(FIGURE, "w");
        says(4, "-2: no such sort.");
        RibbonPole pole = new RibbonPole();
        due("fault(-1)", -2, pole.fault(-1));
        due("fault(3)", -2, pole.fault(3));
        due("fault of the lowest", -2, pole.fault(Integer.MIN_VALUE));
        due("fault of the highest", -2, pole.fault(Integer.MAX_VALUE));
    }

    private static void clausesOfGreens() {
        says(4, "s (its RULES; one at most)");
        right(GREEN, "d;d;d");
        right(GREEN, "s;d;d;d");
        right(GREEN, "d;d;d;s");
        fault(GREEN, "s;s;d;d;d", 2);
        says(4, "d (a DANCER; 3 .. 7), in any order");
        endsEarly(GREEN, "d;d");
        right(GREEN, "d;d;s;d");
        right(GREEN, "d;d;d;d;d;s;d;d");
        fault(GREEN, "d;d;d;d;d;d;d;d", 14);
        says(4, "then ITEMS, none or more");
        right(GREEN, "s;d;dc1;dc1l1s1");
        right(GREEN, "st1k1w1;d;d;d");
        says(4, "a letter, each once at most in a CLAUSE");
        right(GREEN, "st1;dc1;dc1;ds1");
        fault(GREEN, "dc1l1s1c1", 7);
        fault(GREEN, "dc1c1", 3);
        fault(GREEN, "sw1k1k1", 5);
        says(4, "and a number (one or two digits)");
        fault(GREEN, "dl", 2);
        fault(GREEN, "dl;d;d", 2);
        fault(GREEN, "dlc1", 2);
        right(GREEN, "dl1;d;d");
        right(GREEN, "dl12;d;d");
        fault(GREEN, "dl123;d;d", 4);
    }

    /** Bounds of a number behind a letter: one digit's, two digits', and with a nought ahead. */
    private static void within(String clause, int lowest, int highest) {
        String others = ";d;d;d";
        for (int value = 0; value <= 99; value++) {
            boolean in = value >= lowest && value <= highest;
            String two = clause + (value < 10 ? "0" : "") + value;
            fault(GREEN, two + others, in ? NONE : two.length() - 1);
            if (value < 10) {
                String one = clause + value;
                fault(GREEN, one + others, in ? NONE : one.length() - 1);
            }
        }
    }

    private static void itemsOfRules() {
        says(4, "t how TIGHT (1 .. 9; 2 without)");
        within("st", 1, 9);
        rule(0, "st1", 1);
        rule(0, "st9", 9);
        rule(0, "s", 2);
        says(4, "k COINS (0 .. 99; 20)");
        within("sk", 0, 99);
        rule(1, "sk0", 0);
        rule(1, "sk99", 99);
        rule(1, "sk00", 0);
        rule(1, "s", 20);
        says(4, "w WIND (0 .. 9; 2)");
        within("sw", 0, 9);
        rule(2, "sw0", 0);
        rule(2, "sw9", 9);
        rule(2, "s", 2);
    }

    private static void rule(int what, String clause, int want) {
        due("rule(" + what + ") of " + clause, want, Poles.green(clause + ";d;d;d").rule(what));
        if (clause.equals("s")) {
            due("rule(" + what + ") without any s", want, Poles.green("d;d;d").rule(what));
        }
    }

    private static void itemsOfDancers() {
        says(4, "c COLOUR (0 .. 7; 0)");
        within("dc", 0, 7);
        trait(0, "dc0", 0);
        trait(0, "dc7", 7);
        trait(0, "dl9", 0);
        says(4, "l LENGTH of his ribbon (1 .. 99; 30)");
        within("dl", 1, 99);
        trait(1, "dl1", 1);
        trait(1, "dl99", 99);
        trait(1, "dc7", 30);
        says(4, "s how SURE (0 .. 9; 5)");
        within("ds", 0, 9);
        trait(2, "ds0", 0);
        trait(2, "ds9", 9);
        trait(2, "d", 5);
    }

    private static void trait(int what, String clause, int want) {
        due("dancer(2, " + what + ") of " + clause, want, Poles.green("dc1l1s1;dc2l2s2;" + clause).dancer(2, what));
    }

    // ---- laws

    private static void lawsAsTexts() {
        says(4, "CLAUSES with ; between, one at least: y, : , perhaps CONDITION ?, then SUM");
        fault(LAW, "", 0);
        right(LAW, "y:1");
        right(LAW, "y:t=1?2");
        right(LAW, "y:1;y:2");
        endsEarly(LAW, "y:1;");
        endsEarly(LAW, "y:t=1?");
        fault(LAW, "y:?1", 2);
        says(4, "(A CLAUSE that goes on with ! or ( behind its : has a CONDITION.)");
        endsEarly(LAW, "y:(t=1)");
        endsEarly(LAW, "y:!t=1");
        fault(LAW, "y:(t)", 4);
        fault(LAW, "y:(1)+2", 4);
        says(4, "ATOM: a number (1 to 4 digits), a letter (t s u n h b), [ SUM ]");
        right(LAW, "y:0");
        right(LAW, "y:9999");
        right(LAW, "y:0000");
        fault(LAW, "y:10000", 6);
        fault(LAW, "y:00000", 6);
        right(LAW, "y:t+s+u+n+h+b");
        fault(LAW, "y:c", 2);
        fault(LAW, "y:[]", 3);
        says(4, "or SUM, one of = < >, SUM");
        fault(LAW, "y:1?1", 3);
        fault(LAW, "y:1=1|1?1", 7);
        fault(LAW, "y:1=1&1?1", 7);
        fault(LAW, "y:1=1=1?1", 5);
        fault(LAW, "y:(1=1)=1?1", 7);
        worth("y:3=3?4;y:5", 4);
        worth("y:3=4?4;y:5", 5);
        worth("y:2<3?4;y:5", 4);
        worth("y:3<3?4;y:5", 5);
        worth("y:4>3?4;y:5", 4);
        worth("y:3>3?4;y:5", 5);
        says(4, "At most six of ( [ ! within one another.");
        right(LAW, "y:[[[[[[1]]]]]]");
        right(LAW, "y:!!!!!!1=1?1");
        right(LAW, "y:((((((1=1))))))?1");
        right(LAW, "y:!(!(![1]=1))?1");
        right(LAW, "y:!!!!!!1=1&!!!!!!2=2|((((((1=1))))))?[[[[[[1]]]]]]+[[[[[[2]]]]]]");
        right(LAW, "y:[[[[[[1]]]]]]=[[[[[[1]]]]]]&[[[[[[1]]]]]]<[[[[[[1]]]]]]|[[[[[[1]]]]]]>2?1");
        right(LAW, "y:1=1&!!!!!!1=1|!!!!!!1=1?1;y:[[[[[[1]]]]]]*[[[[[[1]]]]]]");
    }

    private static void worthOfLaws() {
        says(22, "Behind each sign numbers are within -1,000,000 .. 1,000,000");
        worth("y:1000*1000-9999*100-95", 5);
        worth("y:1001*1000-9999*100-95", 5);
        worth("y:9999*9999-9999*100-95", 5);
        worth("y:[1000*1000+1]-9999*100-95", 5);
        worth("y:[0-9999]*9999+9999*100+105", 5);
        worth("y:[0-1000*1000-1]+9999*100+105", 5);
        worth("y:1000*1000=1001*1000?3;y:4", 3);
        worth("y:9999*100=9999*101?3;y:4", 4);
        says(22, "/ cuts towards 0, by 0 gives 0");
        worth("y:7/2", 3);
        worth("y:9+[0-7]/2", 6);
        worth("y:9+7/[0-2]", 6);
        worth("y:4+9/0", 4);
        worth("y:4+[0-9]/[t-2]", 4);
        worth("y:5+0/0", 5);
        says(22, "the SUM of the first CLAUSE whose CONDITION holds (or has none), 0 without");
        worth("y:t=2?4;y:t=2?5;y:6", 4);
        worth("y:t=1?4;y:t=2?5;y:6", 5);
        worth("y:t=1?4;y:t=1?5;y:6", 6);
        worth("y:6;y:t=2?5", 6);
        worth("y:t=1?4;y:t=1?5", 1);
        says(22, "held within 1 .. 9 (none at first: TIGHT)");
        worth("y:0", 1);
        worth("y:1", 1);
        worth("y:2", 2);
        worth("y:8", 8);
        worth("y:9", 9);
        worth("y:10", 9);
        worth("y:9999*9999", 9);
        worth("y:0-9999*9999", 1);
        due("takes by none", 7, Poles.green("st7;d;d;d").takes(0, true));
    }

    // ---- figures

    private static void figuresAsTexts() {
        says(4, "ROWS: one STEP or more with ; between");
        fault(FIGURE, "", 0);
        right(FIGURE, "w");
        right(FIGURE, "w;w");
        endsEarly(FIGURE, "w;");
        fault(FIGURE, "2()", 2);
        fault(FIGURE, "w;;w", 2);
        says(4, "or a digit 2 .. 9, ( , a ROW, ) : that ROW so many times");
        fault(FIGURE, "0(w)", 0);
        fault(FIGURE, "1(w)", 0);
        for (int n = 2; n <= 9; n++) {
            RibbonPole pole = Poles.figures(new RibbonPole(), n + "(w;o1)");
            due("steps of " + n + "(w;o1)", 2 * n, pole.step(0, NONE));
        }
        fault(FIGURE, "10(w)", 0);
        fault(FIGURE, "22(w)", 1);
        says(4, "at most three of these ( within one another");
        right(FIGURE, "2(2(2(w)))");
        right(FIGURE, "2(2(2(w);2(w));2(w));2(2(2(w)))");
        fault(FIGURE, "2(2(2(2(w))))", 7);
        says(4, "UNROLLED (each ROW as many times as told) a FIGURE has at most 48 STEPS.");
        right(FIGURE, "6(8(w))");
        right(FIGURE, "w" + ";w".repeat(47));
        endsEarly(FIGURE, "w" + ";w".repeat(48));
        endsEarly(FIGURE, "7(7(w))");
        endsEarly(FIGURE, "6(8(w));w");
        right(FIGURE, "5(9(w));w;w;w");
        endsEarly(FIGURE, "9(9(9(w)))");
        endsEarly(FIGURE, "9(9(9(w;o1;u2)));9(9(9(w)))");
        says(4, "(A PLACE of a FIGURE that is not there is no FAULT.)");
        for (int place = 0; place <= 9; place++) {
            right(FIGURE, "o" + place + ";u" + place);
        }
    }

    private static void blanks() {
        says(4, "Blanks (32) may stand between all signs of all three, not within numbers.");
        right(GREEN, "  s t 1 k 20 w 3 ; d c 1 l 99 s 9 ; d ; d  ");
        fault(GREEN, "dl1 2;d;d", 4);
        fault(GREEN, "st1 ;d;dl3 0;d", 11);
        right(LAW, "  y : ! ( t = 12 ) & [ s ] > 1 | u < 3 ? n + h - b * 2 / 1 ; y : 4  ");
        fault(LAW, "y:1 2", 4);
        right(FIGURE, "  2 ( o 1 ; 3 ( u 0 ) ) ; w  ");
        fault(FIGURE, "o1 2", 3);
        fault(GREEN, "d;d;d\t", 5);
        fault(LAW, "y:1\n", 3);
        fault(FIGURE, "w" + (char) 160, 1);
    }

    private static void faults() {
        says(4, "FAULT: the first byte at which no such TEXT can go on");
        fault(GREEN, "xx", 0);
        fault(GREEN, "d;d;dx;x", 5);
        fault(GREEN, "d,d;d", 1);
        fault(LAW, "y;1", 1);
        fault(LAW, "y:1+*2", 4);
        fault(LAW, "y:1]", 3);
        fault(FIGURE, "w)", 1);
        fault(FIGURE, "x", 0);
        says(4, "(the length, if it ends too early, with fewer than three DANCERS, with more than 48 STEPS UNROLLED)");
        for (String text : new String[] {"", "  ", "s", "d", "d;", "d;d", "d;d;", "d;d;d;", "dc", "s;d;d ", "d;d;s"}) {
            endsEarly(GREEN, text);
        }
        for (String text : new String[] {"", " ", "y", "y:", "y:1+", "y:[1", "y:(1=1", "y:!", "y:1=", "y:1=1", "y:1;"}) {
            endsEarly(LAW, text);
        }
        for (String text : new String[] {"", " ", "o", "u ", "2", "2(", "2(w", "2(w;", "w;", "7(7(w)) "}) {
            endsEarly(FIGURE, text);
        }
        fault(FIGURE, "7(7(w));)", 8);
        for (int sort = 0; sort < 3; sort++) {
            endsEarly(sort, " ".repeat(240));
        }
        says(4, "a number out of bounds is wrong at its last digit");
        fault(GREEN, "dc8;d;d", 2);
        fault(GREEN, "dc08;d;d", 3);
        fault(GREEN, "dc10;d;d", 3);
        fault(GREEN, "st0;d;d;d", 2);
        fault(GREEN, "st00;d;d;d", 3);
        fault(GREEN, "s t 10 ;d;d;d", 5);
        says(4, "a third digit (a fifth one in a LAW) itself, whatever stands ahead of it");
        fault(GREEN, "dl100;d;d", 4);
        fault(GREEN, "dc888;d;d", 4);
        fault(GREEN, "st000;d;d;d", 4);
        fault(GREEN, "sk0001;d;d;d", 4);
        fault(LAW, "y:99999", 6);
        fault(LAW, "y:[000001]", 7);
        faultsAtIt();
    }

    private static void faultsAtIt() {
        says(4, "a letter that was there");
        fault(GREEN, "dc1 s1 c1", 7);
        fault(GREEN, "st1 t", 4);
        says(4, "a second s, an eighth d");
        RibbonPole pole = new RibbonPole();
        due("a text with s", NONE, Check.fault(pole, GREEN, "s;d;d;d;d;d;d;d"));
        due("the next one has its own s and d", NONE, Check.fault(pole, GREEN, "s;d;d;d;d;d;d;d"));
        fault(GREEN, "d;s;d;d;s", 8);
        fault(GREEN, "d;s;d;d; s", 9);
        fault(GREEN, "d;d;d;d;d;d;d;d", 14);
        fault(GREEN, "d;d;d;d;d;d;d;s;d", 16);
        fault(GREEN, "s;d;d;d;d;d;d;d; d", 17);
        says(4, "a digit 0 or 1 of a STEP");
        fault(FIGURE, "w;0(w)", 2);
        fault(FIGURE, "w;1(w)", 2);
        fault(FIGURE, "2(1(w))", 2);
        says(4, "a fourth ( within one another of a FIGURE");
        fault(FIGURE, "9(2(2(2(w))))", 7);
        fault(FIGURE, "2(2(2(w);2(w;3(", 14);
        fault(FIGURE, "2(2(w;2(w;2 (", 12);
        says(4, "a seventh of ( [ ! of a LAW at it");
        fault(LAW, "y:[[[[[[[1]]]]]]]", 8);
        fault(LAW, "y:!!!!!!!1=1?1", 8);
        fault(LAW, "y:(((((((1=1)))))))?1", 8);
        fault(LAW, "y:!(!(!([1]=1)))?1", 8);
        fault(LAW, "y:!!!(((1=[1])))?1", 10);
        fault(LAW, "y:1=1?[[[[[[1]]]]]]+[[[[[[[1]]]]]]]", 26);
    }

    // ---- 5, 6, 9, 10

    private static void textsTaken() {
        says(5, "The TAPE (empty then) is the GREEN");
        RibbonPole pole = new RibbonPole();
        for (int sort = 0; sort < 3; sort++) {
            Check.tape(pole, new String[] {"d;d;d", "y:1", "w"}[sort]);
            due("text(" + sort + ")", sort == 0 ? 3 : 0, pole.text(sort));
            due("the tape", 0, pole.count(4));
            due("an empty tape once more", NONE, pole.text(sort));
        }
        says(5, "how many DANCERS; a LAW, a FIGURE: its number");
        for (int dancers = 3; dancers <= 7; dancers++) {
            due("text(0)", dancers, Check.text(new RibbonPole(), GREEN, "d" + ";d".repeat(dancers - 1)));
        }
        says(5, "NONE: a FAULT, no such sort, there are four LAWS, six FIGURES.");
        refusedText(GREEN, "d;d");
        refusedText(LAW, "y:");
        refusedText(FIGURE, "7(7(w))");
        refusedText(3, "d;d;d");
        refusedText(-1, "d;d;d");
        refusedText(Integer.MAX_VALUE, "w");
        says(5, "LAWS (4 at most) are TEXTS");
        fills(LAW, "y:1", 4);
        says(5, "FIGURES (6 at most) are TEXTS");
        fills(FIGURE, "w", 6);
    }

    private static void refusedText(int sort, String text) {
        RibbonPole pole = Poles.green("d;d;d;d");
        Check.tape(pole, text);
        due("text(" + sort + ") of " + text, NONE, pole.text(sort));
        due("the tape stays", text.length(), pole.count(4));
        due("the green stays", 4, pole.count(0));
        due("no law came", 0, pole.count(2));
        due("no figure came", 0, pole.count(3));
    }

    private static void fills(int sort, String text, int most) {
        RibbonPole pole = new RibbonPole();
        for (int i = 0; i < most; i++) {
            due("text", i, Check.text(pole, sort, text));
        }
        Check.tape(pole, text);
        due("one more", NONE, pole.text(sort));
        due("the tape stays", text.length(), pole.count(4));
        due("it is no fault", NONE, pole.fault(sort));
        due("how many there are", most, pole.count(sort + 1));
        due("a green behind a full row", 3, Check.text(pole, GREEN, "d;d;d"));
        due("still as many", most, pole.count(sort + 1));
        due("still one too many", NONE, Check.text(pole, sort, text));
    }

    private static void greenAnew() {
        says(5, "(BEAT 0, no PLAIT; all that was of another one, SEEN, too, is gone but LAWS, which holds, FIGURES, STATUS)");
        RibbonPole pole = Poles.figures(Poles.holding(Poles.green(Poles.LONG), "y:3"), "o0;o1;o2");
        pole.give(51);
        pole.dance(0);
        pole.longer(3, 0);
        pole.give(50);
        pole.seen(0, 0, 1, true);
        pole.image();
        due("a green anew", 3, Check.text(pole, GREEN, "d;dl99;d"));
        int[] counts = {3, 0, 1, 1, 0, 0, 0, 0, 0, 0};
        for (int what = 0; what < 10; what++) {
            due("count(" + what + ")", counts[what], pole.count(what));
        }
        due("coins as told", 20, pole.rule(1));
        due("lengths as told", 99, pole.dancer(1, 1));
        due("left as told", 99, pole.dancer(1, 4));
        due("all at their numbers", 12, pole.most(5));
        due("no place 3", NONE, pole.stands(3));
        due("no log", NONE, pole.log(0, 0));
        due("no act", NONE, pole.undo());
        due("no image", NONE, pole.back());
        due("all fits again", 1, pole.fits());
        due("the law holds on", 3, pole.takes(0, true));
        due("the figure stays", 3, pole.step(0, NONE));
        Sentence.due("status stays", "0 2 0 0 0", Poles.statusOf(pole));
        greenAlike();
    }

    /** The same text once more is another green. */
    private static void greenAlike() {
        RibbonPole pole = Poles.green("d;d;d");
        pole.cross(0, true);
        pole.image();
        due("the same green", 3, Check.text(pole, GREEN, "d;d;d"));
        due("no image of it", NONE, pole.back());
        due("no act of it", NONE, pole.undo());
        due("no plait", 0, pole.count(1));
    }

    private static void lawThatHolds() {
        says(9, "The LAW that holds (NONE: none).");
        RibbonPole pole = Poles.green("st7;d;d;d");
        due("none at first", NONE, pole.count(5));
        due("law(NONE) without laws", true, pole.law(NONE));
        for (int law = 0; law < 4; law++) {
            Check.text(pole, LAW, "y:" + (law + 1));
            due("told, it does not hold yet", law - 1, pole.count(5));
            due("law(" + law + ")", true, pole.law(law));
            due("it holds", law, pole.count(5));
            due("takes by it", law + 1, pole.takes(0, true));
        }
        due("law(0)", true, pole.law(0));
        due("takes by the first", 1, pole.takes(0, true));
        due("law(NONE)", true, pole.law(NONE));
        due("none holds", NONE, pole.count(5));
        due("takes by none", 7, pole.takes(0, true));
        says(9, "False: no such one.");
        due("law(4)", false, pole.law(4));
        due("law(-2)", false, pole.law(-2));
        due("law of the lowest", false, pole.law(Integer.MIN_VALUE));
        due("none holds still", NONE, pole.count(5));
        due("law(0) without laws", false, new RibbonPole().law(0));
        pole.law(3);
        due("law(4)", false, pole.law(4));
        due("the fourth holds still", 3, pole.count(5));
    }

    private static void stepsUnrolled() {
        says(10, "(how many: i NONE)");
        RibbonPole pole = Poles.figures(new RibbonPole(), "w", "6(8(u9))");
        due("of one step", 1, pole.step(0, NONE));
        due("of 48 steps", 48, pole.step(1, NONE));
        says(10, "2 times the digit (o), and 1 (u), 20 (w). NONE: no such ones.");
        due("w", 20, pole.step(0, 0));
        due("behind the only step", NONE, pole.step(0, 1));
        due("the last of 48", 19, pole.step(1, 47));
        due("behind the last of 48", NONE, pole.step(1, 48));
        due("i -2", NONE, pole.step(1, -2));
        due("i the lowest", NONE, pole.step(1, Integer.MIN_VALUE));
        due("i the highest", NONE, pole.step(1, Integer.MAX_VALUE));
        due("figure 2 of two", NONE, pole.step(2, NONE));
        due("figure -1", NONE, pole.step(-1, NONE));
        due("figure the highest", NONE, pole.step(Integer.MAX_VALUE, 0));
        for (int place = 0; place <= 9; place++) {
            RibbonPole one = Poles.figures(new RibbonPole(), "o" + place + ";u" + place);
            due("o" + place, 2 * place, one.step(0, 0));
            due("u" + place, 2 * place + 1, one.step(0, 1));
        }
    }

    private static void rules() {
        says(6, "0 how TIGHT, 1 COINS now, 2 WIND. NONE: no GREEN, no such what.");
        for (int what = -1; what <= 3; what++) {
            due("rule(" + what + ") without a green", NONE, new RibbonPole().rule(what));
        }
        RibbonPole pole = Poles.green("st9k0w7;d;d;d");
        int[] want = {9, 0, 7};
        for (int what = 0; what < 3; what++) {
            due("rule(" + what + ")", want[what], pole.rule(what));
        }
        due("rule(3)", NONE, pole.rule(3));
        due("rule(-1)", NONE, pole.rule(-1));
        due("rule of the lowest", NONE, pole.rule(Integer.MIN_VALUE));
        pole.give(50);
        pole.longer(0, 20);
        due("coins now", 30, pole.rule(1));
    }
}
