/** Terms I, sentence by sentence, at their edges: texts, their faults, cells, sums, where a cell leads, sights. */
final class TextEdges {
    private static final String[] WORDS_OF_LINES = {"state", "push", "world", "num", "sight", "to", "if", "and"};

    private TextEdges() {
    }

    static void all() {
        tape();
        words();
        wholes();
        signs();
        lines();
        spans();
        tests();
        sums();
        steps();
        order();
        formFaults();
        nameFaults();
        spanFaults();
        manyFaults();
        sizes();
        numbering();
        bounds();
        nexts();
        sights();
    }

    private static void of(String words) {
        Checks.of("I", words);
    }

    private static void due(String what, long got, long want) {
        Checks.due(what, got, want);
    }

    private static void fine(String text, int cells) {
        Checks.fine(text, cells);
    }

    private static void fault(String text, int number, int place) {
        Checks.fault(text, number, place);
    }

    private static int sight(String sum, int cell) {
        return Checks.house("state x -2 to 2; sight s = " + sum).sight(cell, 0, 0, 0);
    }

    private static void tape() {
        of("THE TEXT of a THING (THE TAPE has 400 bytes;");
        SteeringHouse house = new SteeringHouse();
        String full = "state x 0 to" + " ".repeat(387) + "1";
        Checks.feed(house, full);
        due("a full tape", house.count(11), 400);
        due("one feed more", house.feed(0, 0, 0, 0, 0), -1);
        due("its last byte counts", house.thing(400), 2);
        Checks.feed(house, full);
        due("without its last byte", house.thing(399), -1);
        due("fault", house.fault(), 1);
        due("where", house.where(), 399);

        of("blanks, 32, part TOKENS and mean nothing else;");
        fine("state x 0 to 1;x=x", 2);
        fine("   state   x   0   to   1   ;   x   =   x   ", 2);
        fine("state x0to1", 2);
        fine("state x -   2 to-1", 2);
        fault("sta te x 0 to 1", 2, 0);
        fault("state a b 0 to 1", 1, 8);
        fault("state x 0 1 to 1", 1, 10);
        fault("statex 0 to 1", 2, 0);
        for (int sign : new int[] {0, 1, 8, 9, 10, 13, 31, 33, 127, 128, 160, 255}) {
            fault("state" + (char) sign + "x 0 to 1", 1, 5);
        }
    }

    private static void words() {
        of("TOKENS: WORDS of 1 to 8 small letters that stand together,");
        fine("state a 0 to 1", 2);
        fine("state z 0 to 1", 2);
        fine("state abcdefgh 0 to 1", 2);
        fine("state zzzzzzzz 0 to 1; state zzzzzzzy 0 to 1; state zzzzzzz 0 to 1", 8);
        fine("state a 0 to 1; state aa 0 to 1; state aaaaaaaa 0 to 1; aa = aaaaaaaa; a = aa", 8);
        fine("state z 0 to 1; state aa 0 to 1; state az 0 to 1", 8);
        fault("state abcdefghi 0 to 1", 1, 6);
        fault("abcdefghi = 1", 1, 0);
        fault("state x 0 to 1; x = abcdefghi", 1, 20);
        fault("state x 0 to 1; x = x if xxxxxxxxx = 1", 1, 25);
        fault("a".repeat(400), 1, 0);
        fault("state A 0 to 1", 1, 6);
        fault("state Z 0 to 1", 1, 6);
        fault("state xY 0 to 1", 1, 7);
        fault("state @ 0 to 1", 1, 6);
        fault("state [ 0 to 1", 1, 6);
        fault("state ` 0 to 1", 1, 6);
        fault("state { 0 to 1", 1, 6);
    }

    private static void wholes() {
        of("WHOLES of 1 to 3 digits that do,");
        fine("state x 0 to 9", 10);
        fine("state x 000 to 009", 10);
        due("three digits", sight("999", 0), 999);
        due("with noughts ahead", sight("007", 0), 7);
        fine("state x 0 to 1;x=1if x=0", 2);
        fault("state x 0000 to 1", 1, 8);
        fault("state x 0 to 1; x = 1000", 1, 20);
        fault("state x 0 to 1; x = 0001", 1, 20);
        fault("state x 0 to 1; x = " + "9".repeat(380), 1, 20);
        fault("state x 0 to 1; x = 1 000", 1, 22);
        fault("state x / to 1", 1, 8);
        fault("state x : to 1", 1, 8);
    }

    private static void signs() {
        of("single ones of < > = + - * ;):");
        for (String sign : new String[] {"<", ">", "=", "+", "-", "*", ";", "1x", "x;"}) {
            fault(sign.repeat(400 / sign.length()), sign.equals("x;") ? 2 : 1, 0);
        }
        fault("state x 0 to 1;" + "x;".repeat(192), 1, 16);
        fine("state x -2 to 2; x = - x * x + 1 - 1 if x < 1 and x > 0 and x = 1", 5);
        fault("state x 0 to 1; x == 1", 1, 19);
        fault("state x 0 to 1; x = 1 if x <= 1", 1, 28);
        fault("state x 0 to 1; x = 1 if x >< 1", 1, 28);
        fault("state x 0 to 1; x = 1 ** 1", 1, 23);
        fault("state x 0 to 1;; x = 1", 1, 15);
        for (int sign = 0; sign < 256; sign++) {
            boolean digit = sign >= '0' && sign <= '9';
            String text = "state x 0 to 1" + (char) sign;
            if (digit || sign == ' ') {
                fine(text, digit ? 11 + sign - '0' : 2);
            } else {
                fault(text, 1, sign == ';' ? 15 : 14);
            }
        }
    }

    /** Every beginning of a text with all LINES: it is a THING behind the whole of a LINE, and only there. */
    private static void lines() {
        of("THING: LINE {; LINE}.");
        fault("", 1, 0);
        fault(";", 1, 0);
        fine("state x 0 to 1", 2);
        fine("state x 0 to 1; state y 0 to 1", 4);
        fault("state x 0 to 1;", 1, 15);
        fault("; state x 0 to 1", 1, 0);
        fault("state x 0 to 1; ; state y 0 to 1", 1, 16);
        fault("state x 0 to 1 state y 0 to 1", 1, 15);
        fine("state x 0 to 0;state y 0 to 0;state z 0 to 0;push u 0 to 0;push v 0 to 0;world w 0 to 0;world d 0 to "
                + "0;num k 0 to 0;num m 0 to 0;sight s=x;sight r=y;x=x;x=y;x=z;y=x;y=y;y=z;z=x;z=y", 1);

        of("LINE: state NAME SPAN, push NAME SPAN, world NAME SPAN, num NAME SPAN, sight NAME = SUM, NAME = SUM, or "
                + "NAME = SUM if TEST.");
        String[] tokens = ("state x 0 to 1 ; push u 0 to 1 ; world w 0 to 1 ; num k 0 to 1 ; "
                + "sight s = x + u * w - k ; x = u ; x = - x if x = k and u < w and 1 > 0").split(" ");
        String whole = " 5 11 17 23 28 30 32 34 38 43 47 51 55 ";
        StringBuilder text = new StringBuilder();
        for (int k = 0; k <= tokens.length; k++) {
            if (whole.contains(" " + k + " ")) {
                fine(text.toString(), 2);
            } else {
                fault(text.toString(), 1, text.length());
            }
            if (k < tokens.length) {
                text.append(k == 0 ? "" : " ").append(tokens[k]);
            }
        }
        fault("state x 0 to 1; push 1 0 to 1", 1, 21);
        fault("state x 0 to 1; world = 0 to 1", 1, 22);
        fault("state x 0 to 1; num ; 0 to 1", 1, 20);
        fault("state x 0 to 1; sight 5 = x", 1, 22);
        fault("state x 0 to 1; sight s x", 1, 24);
        fault("state x 0 to 1; sight s = x if x = 1", 1, 28);
        fault("state x 0 to 1; x < x", 1, 18);
        fault("state x 0 to 1; x 0 to 1", 1, 18);
        fault("state x 0 to 1 if x = 1", 1, 15);
        fault("state x = 1", 1, 8);
    }

    private static void spans() {
        of("SPAN: INT to INT; INT: WHOLE or - WHOLE.");
        fine("state x - 0 to 0", 1);
        fine("state x -5 to - 3", 3);
        fine("state x 5 to 5", 1);
        fine("state x -20 to 20", 41);
        fault("state x + 5 to 6", 1, 8);
        fault("state x - - 1 to 3", 1, 10);
        fault("state x - to 3", 1, 10);
        fault("state x to 3", 1, 8);
        fault("state x 0 5", 1, 10);
        fault("state x 0 if 5", 1, 10);
        fault("state x 0 to to 5", 1, 13);
        fault("state x 0 to x", 1, 13);
        fault("state x 0 to - x", 1, 15);
        fault("state x 0 to 1 + 1", 1, 15);
        fault("state x 0 to 1 to 2", 1, 15);
    }

    private static void tests() {
        of("TEST: ONE {and ONE}.");
        SteeringHouse both = Checks.house("state x 0 to 4");
        due("of one", Checks.good(both, "x < 2"), 2);
        due("of two", Checks.good(both, "x < 2 and x > 0"), 1);
        due("the first of two fails", Checks.good(both, "1 < 0 and 0 < 1"), 0);
        due("the last of three fails", Checks.good(both, "0 < 1 and 0 < 1 and 1 < 0"), 0);
        due("of thirty", Checks.good(both, "0<1 and ".repeat(29) + "x=4"), 1);
        due("of thirty, the last fails", Checks.good(both, "0<1 and ".repeat(29) + "x=5"), 0);
        fault("state x 0 to 1; x = 1 if x = 1 and", 1, 34);
        fault("state x 0 to 1; x = 1 if and x = 1", 1, 25);
        fault("state x 0 to 1; x = 1 if x = 1 x = 1", 1, 31);
        fault("state x 0 to 1; x = 1 if", 1, 24);

        of("ONE: SUM < SUM, SUM > SUM, SUM = SUM.");
        due("less, not as much", Checks.good(both, "x < 2"), 2);
        due("more, not as much", Checks.good(both, "x > 2"), 2);
        due("as much", Checks.good(both, "x = 2"), 1);
        due("sums at both sides", Checks.good(both, "- 1 + x * 2 = 6 - x + 2"), 1);
        fault("state x 0 to 1; x = 1 if x", 1, 26);
        fault("state x 0 to 1; x = 1 if x <", 1, 28);
        fault("state x 0 to 1; x = 1 if < x", 1, 25);
        fault("state x 0 to 1; x = 1 if 0 < x < 2", 1, 31);
    }

    private static void sums() {
        of("SUM: TERM, or - TERM, {+ TERM or - TERM}.");
        due("a minus ahead", sight("- 3", 0), -3);
        due("it is of the first term alone", sight("- 3 + 5", 0), 2);
        due("one behind the other", sight("9 - 5 - 3", 0), 1);
        due("minus a term", sight("9 - 2 * 3", 0), 3);
        due("plus a term", sight("2 + 3 * 4", 0), 14);
        fault("state x 0 to 1; x = + 1", 1, 20);
        fault("state x 0 to 1; x = - - 1", 1, 22);
        fault("state x 0 to 1; x = 1 + - 1", 1, 24);
        fault("state x 0 to 1; x = 1 +", 1, 23);
        fault("state x 0 to 1; x = -", 1, 21);
        fault("state x 0 to 1; x =", 1, 19);

        of("TERM: FACTOR {* FACTOR}.");
        due("one factor", sight("7", 0), 7);
        due("three factors", sight("2 * x * 5", 0), -20);
        due("a minus ahead is of the whole term", sight("- x * x", 0), -4);
        fault("state x 0 to 1; x = 2 * - 1", 1, 24);
        fault("state x 0 to 1; x = * 2", 1, 20);
        fault("state x 0 to 1; x = 2 *", 1, 23);
        fault("state x 0 to 1; x = 2 x", 1, 22);

        of("FACTOR: WHOLE or NAME (told ahead, no sight).");
        fine("state x 0 to 1; push u 0 to 0; world w 0 to 0; num k 0 to 0; x = 3 * x * u * w * k", 2);
        fault("state x 0 to 1; x = u; push u 0 to 1", 2, 20);
        fault("state x 0 to 1; x = y; state y 0 to 1", 2, 20);
        fault("state x 0 to 1; sight s = s", 2, 26);
        fault("state x 0 to 1; sight s = 1; x = s", 2, 33);
        fault("state x 0 to 1; sight s = 1; x = 1 if s = 1", 2, 38);
    }

    private static void steps() {
        of("A STEP (NAME = ..) is of a state told ahead.");
        fine("state x 0 to 1; x = 1; state y 0 to 1; y = x", 4);
        fault("state x 0 to 1; y = x; state y 0 to 1", 2, 16);
        fault("x = 1; state x 0 to 1", 2, 0);
        fault("state x 0 to 1; push u 0 to 1; u = 1", 2, 31);
        fault("state x 0 to 1; world w 0 to 1; w = 1", 2, 32);
        fault("state x 0 to 1; num k 0 to 1; k = 1", 2, 30);
        fault("state x 0 to 1; sight s = 1; s = 1", 2, 29);
    }

    private static void order() {
        of("FAULTS, the first that is met from the left,");
        fault("state x 0 to 1; y = 1; ?", 2, 16);
        fault("state x 0 to 1 ? y = 1", 1, 15);
        fault("state x 21 to 5 ?", 4, 11);
        fault("state x 0 to 21 ?", 4, 10);
        fault("state x 0 to 1; state x 0 to 21; ?", 3, 22);
        fault("push u 0 to 1; q", 2, 15);
        fault("push a 0 to 0; push b 0 to 0; push c 9 to 5 ?", 5, 35);

        of("of one place the least number:");
        fault("", 1, 0);
        fault("push u 0 to 1;", 1, 14);
        fault("state a 0 to 0; state b 0 to 0; state c 0 to 0; state abcdefghi", 1, 54);
        fault("state a 0 to 0; state b 0 to 0; state c 0 to 0; state a", 3, 54);
        fault("state a 0 to 0; state b 0 to 0; state c 0 to 0; state if", 3, 54);
        String steps = ";x=1;x=1;x=1;x=1;x=1;x=1;x=1;x=1";
        fault("state x 0 to 1" + steps + ";q=1", 2, 47);
        fault("state x 0 to 1" + steps + ";xxxxxxxxx=1", 1, 47);
        String sixty = "state x 0 to 1;x=" + "1+".repeat(60);
        fault(sixty + "to", 1, 137);
        fault(sixty + "+", 1, 137);
        fault(sixty + "q", 2, 137);
    }

    private static void formFaults() {
        of("1 FORM: the first byte that begins no TOKEN, or TOKEN with which no THING goes on (the end: its place).");
        fault("?", 1, 0);
        fault("state ?", 1, 6);
        fault("state x?", 1, 7);
        fault("state x 0 to 1?", 1, 14);
        fault("state x 0 to 1; x = 1 ?", 1, 22);
        fault("5", 1, 0);
        fault("= 1", 1, 0);
        fault("state 5 0 to 1", 1, 6);
        fault("state", 1, 5);
        fault("state   ", 1, 8);
        fault("state x 0 to", 1, 12);
        fault("state x 0 to   ", 1, 15);
        fault("state x 0 to 1; x", 1, 17);
        fault(" ".repeat(400), 1, 400);
    }

    private static void nameFaults() {
        of("2 a NAME that wasn't told ahead, that is a sight in a SUM, or, begins a LINE and is none of state, push, "
                + "world, num, sight, and no state (to, if, and, too); at it.");
        fault("state x 0 to 1; x = q", 2, 20);
        fault("state x 0 to 1; x = 1 if x = q", 2, 29);
        fault("state x 0 to 1; sight s = q", 2, 26);
        fault("state x 0 to 1; sight s = x; sight r = s", 2, 39);
        fault("q", 2, 0);
        fault("to 1", 2, 0);
        fault("if x = 1", 2, 0);
        fault("and", 2, 0);
        fault("too", 2, 0);
        fault("states x 0 to 1", 2, 0);
        fault("state x 0 to 1; to = 1", 2, 16);
        fault("state x 0 to 1; if = 1", 2, 16);
        fault("state x 0 to 1; and = 1", 2, 16);

        of("3 a NAME that is told anew and was told, or is one of state, push, world, num, sight, to, if, and; at it.");
        String told = "state x 0 to 1; push u 0 to 1; world w 0 to 1; num k 0 to 1; sight s = x; ";
        for (String name : new String[] {"x", "u", "w", "k", "s"}) {
            fault(told + "state " + name, 3, 80);
            fault(told + "push " + name, 3, 79);
            fault(told + "world " + name, 3, 80);
            fault(told + "num " + name, 3, 78);
            fault(told + "sight " + name, 3, 80);
        }
        for (String word : WORDS_OF_LINES) {
            fault("state " + word, 3, 6);
            fault("push " + word + " 0 to 1", 3, 5);
            fault("world " + word + " 0 to 1", 3, 6);
            fault("num " + word + " 0 to 1", 3, 4);
            fault("sight " + word + " = 1", 3, 6);
        }
        fine("state too 0 to 1; state iff 0 to 1; state ands 0 to 1", 8);

        of("(These are 1 where a NAME of a SUM can be.)");
        for (String word : WORDS_OF_LINES) {
            fault("state x 0 to 1; x = " + word, 1, 20);
            fault("state x 0 to 1; x = - " + word, 1, 22);
            fault("state x 0 to 1; x = x * " + word, 1, 24);
            fault("state x 0 to 1; sight s = " + word, 1, 26);
            fault("state x 0 to 1; x = x if " + word, 1, 25);
            fault("state x 0 to 1; x = x if x > " + word, 1, 29);
        }
    }

    private static void spanFaults() {
        of("4 a SPAN beyond -20 .. 20,");
        fine("state x -20 to 20", 41);
        fine("state x -20 to -20", 1);
        fine("state x 20 to 20", 1);
        fine("state x 1 to 1; push u 20 to 20; world w -20 to -20; num k -20 to -20", 1);
        fault("state x -21 to 0", 4, 12);
        fault("state x 21 to 21", 4, 11);
        fault("state x 0 to 21", 4, 10);
        fault("state x -20 to -21", 4, 12);
        fault("push u 0 to 21", 4, 9);
        fault("world w -21 to 0", 4, 12);
        fault("num k 0 to 999", 4, 8);
        fault("state x -999 to 999", 4, 13);

        of("or whose second INT is less;");
        fine("state x 3 to 3", 1);
        fault("state x 3 to 2", 4, 10);
        fault("state x 0 to -1", 4, 10);
        fault("state x -1 to -2", 4, 11);
        fault("state x 20 to -20", 4, 11);
        fault("push u 1 to 0", 4, 9);

        of("at the WORD to (as both its INTS are read; as it is reached if the first one is beyond).");
        fault("state x 21 to", 4, 11);
        fault("state x 21 to ?", 4, 11);
        fault("state x - 21    to 22", 4, 16);
        fault("state x 21", 1, 10);
        fault("state x 21 ?", 1, 11);
        fault("state x 0 to", 1, 12);
        fault("state x 0 to ?", 1, 13);
        fault("state x 0 to -", 1, 14);
        fault("state x 0 to 21", 4, 10);
        fault("state x 0 to 21?", 4, 10);
        fault("state x 1 to 0;", 4, 10);
        fault("state x 0 to 1000", 1, 13);
    }

    private static void manyFaults() {
        of("5 MANY: a fourth state, a third push, world, num, sight, at its NAME;");
        fine("state a 0 to 1; state b 0 to 1; state c 0 to 1", 8);
        fault("state a 0 to 0; state b 0 to 0; state c 0 to 0; state d", 5, 54);
        fault("state a 0 to 0; state b 0 to 0; state c 0 to 0; state", 1, 53);
        fine("state x 0 to 1; push a 0 to 1; push b 0 to 1", 2);
        fault("push a 0 to 0; push b 0 to 0; push c ?", 5, 35);
        fine("state x 0 to 1; world a 0 to 1; world b 0 to 1", 2);
        fault("world a 0 to 0; world b 0 to 0; world c ?", 5, 38);
        fine("state x 0 to 1; num a 0 to 1; num b 0 to 1", 2);
        fault("num a 0 to 0; num b 0 to 0; num c ?", 5, 32);
        fine("state x 0 to 1; sight a = 1; sight b = 1", 2);
        fault("sight a = 1; sight b = 1; sight c ?", 5, 32);

        of("a ninth STEP, at its NAME;");
        String steps = ";x=1;x=1;x=1;x=1;x=1;x=1;x=1;x=1";
        fine("state x 0 to 1" + steps, 2);
        fault("state x 0 to 1" + steps + ";x=1", 5, 47);
        fault("state x 0 to 1" + steps + ";x", 5, 47);
        fault("state x 0 to 1;state y 0 to 1;x=1;y=1;x=1;y=1;x=1;y=1;x=1;y=1;y=1", 5, 62);

        of("a 61st FACTOR, at it;");
        fine("state x 0 to 1;x=" + "1+".repeat(59) + "1", 2);
        fault("state x 0 to 1;x=" + "1+".repeat(60) + "1", 5, 137);
        fine("state x 0 to 1;x=" + "x*".repeat(59) + "x", 2);
        fault("state x 0 to 1;x=" + "x*".repeat(60) + "x", 5, 137);
        fine("state x 0 to 1;x=1 if 1=" + "1+".repeat(57) + "1", 2);
        fault("state x 0 to 1;x=1 if 1=" + "1+".repeat(58) + "1", 5, 140);
        fine("state x 0 to 1;sight s=" + "1+".repeat(58) + "1;x=x", 2);
        fault("state x 0 to 1;sight s=" + "1+".repeat(59) + "1;x=x", 5, 145);
    }

    private static void sizes() {
        of("and as the text ends, at its place: no state;");
        fault("push u 0 to 1", 5, 13);
        fault("push u 0 to 1   ", 5, 16);
        fault("world w 0 to 0", 5, 14);
        fault("sight s = 1", 5, 11);
        fine("push u 0 to 1; state x 0 to 0", 1);

        of("more than 400 CELLS, 9 PUSHES, 27 WORLDS.");
        fine("state x 1 to 20; state y 1 to 20", 400);
        fine("state x 1 to 10; state y 1 to 10; state z 1 to 4", 400);
        fault("state x 1 to 13; state y -15 to 15", 5, 34);
        fault("state x -20 to 20; state y -20 to 20; state z -20 to 20", 5, 55);
        fine("state x 0 to 0; push u 0 to 8", 1);
        fine("state x 0 to 0; push u 0 to 2; push v 0 to 2", 1);
        fault("state x 0 to 0; push u 0 to 9", 5, 29);
        fault("state x 0 to 0; push u 0 to 4; push v 0 to 1", 5, 44);
        fault("state x 0 to 0; push u -20 to 20; push v -20 to 20", 5, 50);
        fine("state x 0 to 0; world w -6 to 20", 1);
        fine("state x 0 to 0; num k -6 to 20", 1);
        fine("state x 0 to 0; world w 0 to 2; num k 0 to 8", 1);
        fine("state x 0 to 0; world w 0 to 2; world d 0 to 2; num k 0 to 2", 1);
        fault("state x 0 to 0; world w -7 to 20", 5, 32);
        fault("state x 0 to 0; num k -7 to 20  ", 5, 32);
        fault("state x 0 to 0; world w 0 to 6; num k 0 to 3", 5, 44);
        fault("state x 0 to 0; world w -20 to 20; world d -20 to 20; num k -20 to 20; num m -20 to 20", 5, 86);
    }

    private static void numbering() {
        of("A CELL: a value of each state within its SPAN: numbered, the first state counting slowest.");
        SteeringHouse house = Checks.house("state x -1 to 1; state y 3 to 4; state z 0 to 2; push u -1 to 0; "
                + "push v 5 to 7; world w 0 to 1; world d 0 to 2; num k 0 to 1; num m 0 to 1; "
                + "sight s = 125 * w + 25 * d + 5 * k + m; sight r = 10 * u + v");
        int cell = 0;
        for (int x = -1; x <= 1; x++) {
            for (int y = 3; y <= 4; y++) {
                for (int z = 0; z <= 2; z++) {
                    due("cell", house.cell(x, y, z), cell);
                    due("its first state", house.state(cell, 0), x);
                    due("its second state", house.state(cell, 1), y);
                    due("its third state", house.state(cell, 2), z);
                    cell++;
                }
            }
        }
        due("CELLS", house.count(5), 18);

        of("A PUSH likewise of pushes (one, 0, if there is none),");
        int push = 0;
        for (int u = -1; u <= 0; u++) {
            for (int v = 5; v <= 7; v++) {
                due("first push", house.push(push, 0), u);
                due("second push", house.push(push, 1), v);
                due("in a SUM", house.sight(0, push, 0, 1), 10 * u + v);
                push++;
            }
        }
        due("PUSHES", house.count(6), 6);
        SteeringHouse none = Checks.house("state x 0 to 1");
        due("one PUSH", none.count(6), 1);
        due("it is 0", none.next(1, 0, 0), 1);
        due("there is no other", none.next(1, 1, 0), -1);

        of("a WORLD of worlds and nums (worlds first).");
        int world = 0;
        for (int w = 0; w <= 1; w++) {
            for (int d = 0; d <= 2; d++) {
                for (int k = 0; k <= 1; k++) {
                    for (int m = 0; m <= 1; m++) {
                        due("world", house.sight(0, 0, world, 0), 125 * w + 25 * d + 5 * k + m);
                        world++;
                    }
                }
            }
        }
        due("WORLDS", house.count(7), 24);
        due("one WORLD without worlds and nums", none.count(7), 1);
        due("numbers first told are no worlds", Checks.house("state x 0 to 9; num k 0 to 1; world w 0 to 2; "
                + "sight s = 10 * w + k").sight(0, 0, 2, 0), 10);
    }

    private static void bounds() {
        of("Sums are ints bound to -1,000,000 .. 1,000,000 behind each sign.");
        due("below the bound", sight("999 * 999", 0), 998001);
        due("just below it", sight("999 * 999 + 999 + 999", 0), 999999);
        due("at it", sight("999 * 999 + 999 + 999 + 1", 0), 1000000);
        due("above it", sight("999 * 999 + 999 + 999 + 2", 0), 1000000);
        due("from the bound on", sight("999 * 999 + 999 + 999 + 9 - 1", 0), 999999);
        due("a factor", sight("100 * 100 * 100", 0), 1000000);
        due("a factor above", sight("999 * 999 * 2 - 1", 0), 999999);
        due("many factors", sight("999 * 999 * 999 * 999 * 999 * 999 * 999", 0), 1000000);
        due("and 0", sight("999 * 999 * 999 * 0", 0), 0);
        due("downwards", sight("- 999 * 999 - 999 - 999 - 1", 0), -1000000);
        due("just above it", sight("- 999 * 999 - 999 - 999", 0), -999999);
        due("from there on", sight("- 999 * 999 - 999 - 999 - 9 + 1", 0), -999999);
        due("a factor below 0", sight("999 * 999 * x", 0), -1000000);
        due("and back", sight("999 * 999 * x * x", 0), 1000000);
        due("minus what is bound", sight("- 999 * 999 * 2 + 999 * 999 * 2", 0), 0);
        due("twice up, then down", sight("999 * 999 + 999 * 999 - 999 * 999", 0), 1999);
        SteeringHouse test = Checks.house("state x 0 to 1");
        due("in tests, too", Checks.good(test, "999 * 999 + 999 * 999 = 999 * 999 * 3"), 2);
        SteeringHouse step = Checks.house("state x 0 to 1; x = 999 * 999 * 9 - 999 * 999 - 999 - 999 - x");
        due("in steps, too", step.next(0, 0, 0), 1);
    }

    private static void nexts() {
        of("NEXT of a CELL by a PUSH and a WORLD: of each state the SUM of its first STEP whose TEST holds (or that "
                + "has none),");
        SteeringHouse first = Checks.house("state x 0 to 9; x = 1 if x = 0; x = 2 if x < 2; x = 3; x = 4 if x = 5; "
                + "x = 5");
        due("the first of all", first.next(0, 0, 0), 1);
        due("the second", first.next(1, 0, 0), 2);
        due("the one without a TEST", first.next(2, 0, 0), 3);
        due("none behind it", first.next(5, 0, 0), 3);
        SteeringHouse mixed = Checks.house("state x 0 to 9; state y 0 to 9; y = 7; x = 8 if y = 0; x = 9");
        due("each state its own", mixed.next(0, 0, 0), 87);
        due("and its own second", mixed.next(1, 0, 0), 97);

        SteeringHouse three = Checks.house("state x 0 to 3; state y 0 to 3; state z 0 to 3; push u -1 to 1; "
                + "push v 0 to 2; world w 0 to 1; num k 0 to 1; z = z + u; y = y + v; x = x + w + k");
        for (int push = 0; push < 9; push++) {
            for (int world = 0; world < 4; world++) {
                due("three states", three.next(three.cell(1, 1, 2), push, world),
                        three.cell(1 + world / 2 + world % 2, 1 + push % 3, 1 + push / 3));
            }
        }

        of("of the values as they were;");
        SteeringHouse swap = Checks.house("state x 0 to 3; state y 0 to 3; x = y; y = x");
        due("1, 2 to 2, 1", swap.next(swap.cell(1, 2, 0), 0, 0), swap.cell(2, 1, 0));
        SteeringHouse seen = Checks.house("state x 0 to 1; state y 0 to 1; x = 1; y = 1 if x = 1");
        due("a TEST, too, of x as it was", seen.next(0, 0, 0), 2);

        of("without one it stays;");
        SteeringHouse stays = Checks.house("state x 0 to 3; state y 0 to 3; x = 3 if x = 0");
        due("no STEP whose TEST holds", stays.next(4, 0, 0), 4);
        due("no STEP at all", stays.next(3, 0, 0), 15);
        due("no STEP of anything", Checks.house("state x -20 to 20").next(40, 0, 0), 40);

        of("OUT if one of them leaves its SPAN.");
        SteeringHouse out = Checks.house("state x 0 to 3; state y -2 to 2; push u -4 to 4; y = y + u");
        due("to its upper end", out.next(out.cell(1, 0, 0), 6, 0), out.cell(1, 2, 0));
        due("beyond it", out.next(out.cell(1, 0, 0), 7, 0), -2);
        due("to its lower end", out.next(out.cell(1, 0, 0), 2, 0), out.cell(1, -2, 0));
        due("below it", out.next(out.cell(1, 0, 0), 1, 0), -2);
        SteeringHouse one = Checks.house("state x 0 to 3; state y 0 to 3; state z 0 to 3; push u 0 to 2; "
                + "x = 4 if u = 0; y = 4 if u = 1; z = 4 if u = 2");
        due("the first of them", one.next(0, 0, 0), -2);
        due("the second of them", one.next(0, 1, 0), -2);
        due("the third of them", one.next(0, 2, 0), -2);
        due("far out", Checks.house("state x 0 to 1; x = 999 * 999 * 999").next(0, 0, 0), -2);
        due("far below", Checks.house("state x 0 to 1; x = - 999 * 999 * 999").next(0, 0, 0), -2);
    }

    private static void sights() {
        of("A sight's value: its SUM, which may have states, worlds, nums and pushes (those of the tick that leads "
                + "to the CELL;");
        String text = "state x 0 to 3; push u 2 to 3; world w 1 to 2; num k 0 to 1; "
                + "sight s = x + 10 * u + 100 * w + 500 * k; x = u";
        SteeringHouse house = Checks.house(text);
        due("of the PUSH and WORLD that led there", house.sight(3, 1, 3, 0), 3 + 30 + 200 + 500);
        house.tick(1);
        house.told(1, 0, 3 + 30 + 200 + 500);
        due("the watcher takes it so", house.can(0), 1);
        house.anew();
        house.tick(1);
        house.told(1, 0, 3 + 20 + 200 + 500);
        due("and not of another PUSH", house.can(0), 0);

        of("of the first CELL 0 for pushes, the least for worlds, nums as they are).");
        for (int k = 0; k <= 1; k++) {
            house.anew();
            house.told(0, 0, 2 + 100 + 500 * k);
            due("0 for pushes, though their SPAN has no 0", house.can(0), 1);
            due("at 2", house.canBe(2), 1);
            due("one num", house.fit(), 1);
        }
        house.anew();
        house.told(0, 0, 2 + 20 + 100);
        due("no push at its least", house.can(0), 0);
        house.anew();
        house.told(0, 0, 2 + 200);
        due("no other world", house.can(0), 0);
    }
}
