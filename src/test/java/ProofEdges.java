/** Terms V and VI and promises 39 to 46, sentence by sentence, at their edges: CODE, claims, TROUBLE. */
final class ProofEdges {
    private static final int LEAST = Checks.LEAST;
    private static final int MOST = Checks.MOST;
    private static final String LINE = "state x 0 to 4; push u -1 to 1; x = x + u";
    private static final String NONE = "state x 0 to 4";
    private static final String TWO = "state x 0 to 4; push u 0 to 1; push v 0 to 1";
    private static final int[] NO_CELLS = {-1, 5, 400, LEAST, MOST};

    private ProofEdges() {
    }

    static void all() {
        codes();
        shifts();
        strays();
        walks();
        claims();
        proved();
        breaks();
        troubles();
        codeCall();
        codedCall();
        straysCall();
        walkCall();
        claimCall();
        provedCall();
        breaksCall();
        troubleCall();
    }

    private static void of(String part, String words) {
        Checks.of(part, words);
    }

    private static void due(String what, long got, long want) {
        Checks.due(what, got, want);
    }

    private static void due(String what, boolean got, boolean want) {
        Checks.due(what, got, want);
    }

    private static int codedPush(SteeringHouse house, int cell) {
        return house.push(house.coded(cell), 0);
    }

    private static void codes() {
        of("V", "CODE: a law in short numbers: for one push: the sum of gains (-128 .. 127) times states, and a bias "
                + "(likewise),");
        SteeringHouse house = Checks.house("state x -2 to 2; state y -1 to 1; state z 0 to 1; push u -4 to 4; x = x");
        house.code(1, 0, 0, 0, 0);
        due("the first gain", codedPush(house, house.cell(2, 1, 1)), 2);
        house.code(0, 3, 0, 0, 0);
        due("the second gain", codedPush(house, house.cell(2, -1, 1)), -3);
        house.code(0, 0, 4, 0, 0);
        due("the third gain", codedPush(house, house.cell(2, 1, 1)), 4);
        house.code(0, 0, 0, -2, 0);
        due("the bias", codedPush(house, house.cell(2, 1, 1)), -2);
        house.code(1, -1, 2, -3, 0);
        due("their sum", codedPush(house, house.cell(2, 1, 1)), 0);
        SteeringHouse wide = Checks.house("state x -20 to 20; push u -4 to 4; x = x");
        wide.code(-128, 0, 0, -128, 7);
        due("(- 128 * - 2 - 128) / 128", codedPush(wide, 18), 1);
        due("(- 128 * 3 - 128) / 128", codedPush(wide, 23), -4);
        wide.code(127, 0, 0, 127, 7);
        due("(127 * 3 + 127 + 64) / 128", codedPush(wide, 23), 4);
        due("(127 * - 4 + 127 + 64) / 128", codedPush(wide, 16), -3);
    }

    private static void shifts() {
        of("V", "shifted down by s (0 .. 7) with half of the last place added first,");
        SteeringHouse house = Checks.house("state x -20 to 20; push u -4 to 4; x = x");
        for (int shift = 0; shift <= 7; shift++) {
            int half = shift == 0 ? 0 : 1 << shift - 1;
            for (int bias = -128; bias <= 127; bias++) {
                house = bias % 64 == 0 ? Checks.house("state x -20 to 20; push u -4 to 4; x = x") : house;
                house.code(0, 0, 0, bias, shift);
                int want = Math.max(-4, Math.min(4, Math.floorDiv(bias + half, 1 << shift)));
                due(bias + " shifted down by " + shift, codedPush(house, 0), want);
            }
        }
        house.code(0, 0, 0, 3, 1);
        due("3 / 2, up", codedPush(house, 0), 2);
        house.code(0, 0, 0, -3, 1);
        due("-3 / 2, up, too", codedPush(house, 0), -1);
        house.code(0, 0, 0, -64, 7);
        due("- 1 / 2", codedPush(house, 0), 0);
        house.code(0, 0, 0, -65, 7);
        due("below - 1 / 2", codedPush(house, 0), -1);
        house.code(0, 0, 0, 63, 7);
        due("below 1 / 2", codedPush(house, 0), 0);
        house.code(0, 0, 0, 64, 7);
        due("1 / 2", codedPush(house, 0), 1);

        of("V", "then brought into its SPAN.");
        house = Checks.house("state x -20 to 20; push u -3 to 5; x = x");
        house.code(1, 0, 0, 0, 0);
        int[] xs = {-20, -4, -3, -2, 4, 5, 6, 20};
        int[] want = {-3, -3, -3, -2, 4, 5, 5, 5};
        for (int i = 0; i < xs.length; i++) {
            due("at " + xs[i], codedPush(house, xs[i] + 20), want[i]);
        }
        SteeringHouse above = Checks.house("state x 0 to 1; push u 7 to 9; x = x");
        due("0 into 7 .. 9", codedPush(above, 0), 7);
        SteeringHouse below = Checks.house("state x 0 to 1; push u -9 to -7; x = x");
        due("0 into -9 .. -7", codedPush(below, 0), -7);
        SteeringHouse far = Checks.house("state x -20 to -20; state y -20 to -20; state z -20 to -20; push u 0 to 1");
        far.code(-128, -128, -128, 127, 0);
        due("the largest sum", far.coded(0), 1);
        far.code(127, 127, 127, -128, 0);
        due("the least sum", far.coded(0), 0);
    }

    private static void strays() {
        of("V", "STRAYS: SAFE CELLS in which its PUSH isn't ALLOWED.");
        SteeringHouse house = Checks.house(LINE);
        due("none", house.strays(), 0);
        house.code(0, 0, 0, 1, 0);
        due("the last CELL", house.strays(), 1);
        house.code(0, 0, 0, -1, 0);
        due("the first CELL", house.strays(), 1);
        house.code(1, 0, 0, -2, 0);
        due("both ends", house.strays(), 2);
        Checks.good(house, "x > 0 and x < 4");
        due("of those that are SAFE", house.strays(), 2);
        Checks.good(house, "x = 2");
        due("its PUSH is ALLOWED", house.strays(), 0);
        SteeringHouse out = Checks.house("state x 0 to 4; push u 0 to 1; x = x + 1");
        due("none is SAFE", out.strays(), 0);
        SteeringHouse all = Checks.house("state x 1 to 20; state y 1 to 20; push u 0 to 1; x = 99 if u = 1");
        all.code(0, 0, 0, 1, 0);
        due("all 400", all.strays(), 400);
    }

    private static void walks() {
        of("V", "WALK: from a CELL by CODE with worlds and nums at their least: ticks until it comes to a CELL where "
                + "it was (how long that round is),");
        SteeringHouse house = Checks.house("state x 0 to 6; push u 0 to 1; world w 1 to 2; num k 0 to 1; "
                + "x = 4 if x = 6 and w = 1 and k = 0; x = x + u");
        house.code(0, 0, 0, 1, 0);
        due("into 4, 5, 6", house.walk(0), 3);
        due("from 6", house.walk(6), 3);
        house.code(0, 0, 0, 0, 0);
        due("it stays", house.walk(3), 1);
        due("from 6 to 4, where it stays", house.walk(6), 1);
        SteeringHouse longest = Checks.house("state x 1 to 20; state y 1 to 20; push u 0 to 0; y = y + 1 if y < 20; "
                + "y = 1; x = x + 1 if y = 20 and x < 20; x = 1 if y = 20");
        due("through all 400", longest.walk(399), 400);
        SteeringHouse last = Checks.house("state x 1 to 20; state y 1 to 20; push u 0 to 0; y = y + 1 if y < 20; "
                + "y = 1 if x < 20; x = x + 1 if y = 20 and x < 20");
        due("through all 400 to one that stays", last.walk(0), 1);

        of("V", "or until it is OUT.");
        SteeringHouse out = Checks.house("state x 1 to 20; state y 1 to 20; push u 0 to 0; y = y + 1 if y < 20; "
                + "y = 1; x = x + 1 if y = 20");
        due("through all 400 and OUT", out.walk(0), -2);
        due("OUT at once", out.walk(399), -2);
        house.code(0, 0, 0, 1, 0);
        Checks.good(house, "x < 3");
        due("not to be GOOD isn't to be OUT", house.walk(0), 3);
    }

    private static void claims() {
        of("V", "CLAIMS: a TICKS told for a CELL (0 .. 999).");
        SteeringHouse house = Checks.house(LINE);
        due("0", house.claim(0, 0), true);
        due("999", house.claim(4, 999), true);
        due("1000", house.claim(1, 1000), false);
        due("-2", house.claim(1, -2), false);
        due("two", house.count(13), 2);
        due("another for the same CELL", house.claim(4, 998), true);
        due("two still", house.count(13), 2);
    }

    private static void proved() {
        of("V", "PROVED: claims alone prove that a CELL comes to the GOAL: it is claimed,");
        SteeringHouse house = Checks.house(LINE);
        Checks.goal(house, "x = 4");
        house.claim(4, 0);
        house.claim(3, 1);
        due("claimed", house.proved(3), 1);
        due("not claimed, though TICKS are 2", house.proved(2), 0);
        house.claim(3, -1);
        due("no more claimed", house.proved(3), 0);
        due("the GOAL", house.proved(4), 1);

        of("V", "and every claimed CELL is GOOD,");
        house.claim(3, 1);
        house.claim(0, 999);
        due("one that fails is enough", house.proved(4), 0);
        house.claim(0, -1);
        due("without it", house.proved(4), 1);
        Checks.good(house, "x < 4");
        due("a GOAL that isn't GOOD", house.proved(4), 0);
        due("nor the one beside it", house.proved(3), 0);
        Checks.good(house, "x > 2");
        due("GOOD both", house.proved(3), 1);

        of("V", "and is of the GOAL if its claim is 0,");
        house.claim(3, 0);
        due("0 claimed of one that isn't", house.proved(4), 0);
        Checks.goal(house, "x > 2");
        due("0 claimed of two that are", house.proved(3), 1);

        of("V", "else has a PUSH that leads by every WORLD to claimed CELLS with less.");
        Checks.good(house, "x > - 1");
        house.claim(2, 1);
        due("with less", house.proved(2), 1);
        house.claim(1, 1);
        due("not with as much", house.proved(1), 0);
        house.claim(1, 2);
        due("with less again", house.proved(1), 1);
        house.claim(4, 5);
        due("of the GOAL, but claimed with more: it has a PUSH", house.proved(4), 1);
        house.claim(3, 6);
        due("now none", house.proved(4), 0);
        SteeringHouse worlds = Checks.house("state x 0 to 3; push u 0 to 8; world w -6 to 20; x = 3 if x = 3; "
                + "x = 2 if u < 8; x = 9 if w = 20 and x = 0; x = 2 if w = 20; x = 3");
        Checks.goal(worlds, "x = 3");
        worlds.claim(3, 0);
        worlds.claim(1, 5);
        due("the last WORLD leads to one that isn't claimed", worlds.proved(1), 0);
        worlds.claim(1, -1);
        worlds.claim(0, 5);
        due("the last WORLD leads OUT", worlds.proved(0), 0);
        worlds.claim(0, -1);
        due("the GOAL alone", worlds.proved(3), 1);
        SteeringHouse ninth = Checks.house("state x 0 to 3; push u 0 to 8; x = 3 if u = 8");
        Checks.goal(ninth, "x = 3");
        ninth.claim(3, 0);
        ninth.claim(0, 1);
        due("the last PUSH does", ninth.proved(0), 1);
    }

    private static void breaks() {
        of("V", "BREAKS: the least CELL whose claim fails so; -2 if none.");
        SteeringHouse house = Checks.house(LINE);
        due("no claim", house.breaks(), -2);
        house.claim(4, 0);
        due("no GOAL", house.breaks(), 4);
        house.claim(0, 0);
        due("the least of two", house.breaks(), 0);
        Checks.goal(house, "x = 0");
        due("the other one", house.breaks(), 4);
        house.claim(4, -1);
        due("none", house.breaks(), -2);
        house.claim(1, 1);
        house.claim(2, 2);
        house.claim(3, 3);
        house.claim(4, 4);
        due("all are claimed, none fails", house.breaks(), -2);
        house.claim(3, 2);
        due("no less than the one beside it", house.breaks(), 3);
        Checks.good(house, "x > 1");
        due("not GOOD", house.breaks(), 0);
    }

    private static void troubles() {
        of("VI", "TROUBLE of the latest call that may be refused (those of which a number is told here):");
        SteeringHouse house = Checks.house(LINE);
        house.stays(0, 0, 0, 0);
        house.layer(-1);
        house.allowed(-1);
        house.ticks(-1);
        house.law(-1);
        house.margin(-1);
        house.canBe(-1);
        house.known(-1);
        house.guess(-1, true);
        house.gain(-1, true);
        house.cell(-1, -1, -1);
        house.state(-1, -1);
        house.push(-1, -1);
        house.sight(-1, -1, -1, -1);
        house.count(-1);
        due("calls of which no number is told", house.trouble(), 2);
        house.layer(0);
        house.margin(0);
        house.known(0);
        due("nor do they clear it", house.trouble(), 2);
        house.next(0, 0, 0);
        due("one of which a number is told does", house.trouble(), 0);
        house.next(-1, 0, 0);
        due("or tells its own", house.trouble(), 1);

        of("VI", "0 it wasn't;");
        TroubleTest.refusingCallsClearIt();
        due("a new object", new SteeringHouse().trouble(), 0);
        house.safe();
        due("not refused", house.trouble(), 0);
        house.next(0, 0, 0);
        due("OUT isn't refused", house.trouble(), 0);
        house.named();
        due("-2 isn't refused", house.trouble(), 0);

        of("VI", "1 there is none such (no THING, CELL, PUSH, WORLD, sight, tick);");
        SteeringHouse none = new SteeringHouse();
        none.safe();
        due("no THING", none.trouble(), 1);
        house.safe();
        house.next(5, 0, 0);
        due("no CELL", house.trouble(), 1);
        house.safe();
        house.next(0, 3, 0);
        due("no PUSH", house.trouble(), 1);
        house.safe();
        house.next(0, 0, 1);
        due("no WORLD", house.trouble(), 1);
        house.safe();
        house.told(0, 0, 0);
        due("no sight", house.trouble(), 1);
        SteeringHouse seen = Checks.house(LINE + "; sight s = x");
        seen.told(1, 0, 0);
        due("no tick", seen.trouble(), 1);

        of("VI", "2 a number;");
        house.best(0, 21);
        due("a horizon", house.trouble(), 2);
        house.safe();
        house.thing(1);
        due("how many bytes", house.trouble(), 2);

        of("VI", "3 no room;");
        for (int tick = 0; tick < 30; tick++) {
            house.tick(0);
        }
        due("30 ticks", house.trouble(), 0);
        house.tick(0);
        due("a 31st", house.trouble(), 3);

        of("VI", "4 a FAULT;");
        house.thing(0);
        due("of thing", house.trouble(), 4);
        house.safe();
        house.cost(0);
        due("of cost", house.trouble(), 4);

        of("VI", "5 not so (not LINEAR, more than one push, not full, told already, not SAFE).");
        SteeringHouse bent = Checks.house("state x 0 to 1; x = x * x");
        bent.rank(true);
        due("not LINEAR", bent.trouble(), 5);
        SteeringHouse two = Checks.house(TWO);
        two.place(0, 0, 0);
        due("more than one push", two.trouble(), 5);
        SteeringHouse poor = Checks.house("state x 0 to 1; state y 0 to 1; push u 0 to 1; x = u");
        poor.place(0, 0, 0);
        due("not full", poor.trouble(), 5);
        seen.told(0, 0, 0);
        seen.told(0, 0, 0);
        due("told already", seen.trouble(), 5);
        Checks.good(seen, "x > 9");
        seen.probe(0);
        due("not SAFE", seen.trouble(), 5);
    }

    private static void codeCall() {
        of("39", "CODE: true;");
        SteeringHouse house = Checks.house("state x 0 to 1; state y 0 to 1; state z 0 to 1; push u -4 to 4");
        due("the least", house.code(-128, -128, -128, -128, 0), true);
        due("the most", house.code(127, 127, 127, 127, 7), true);
        due("trouble", house.trouble(), 0);

        of("39", "false: 1; 5 (not just one push);");
        SteeringHouse none = new SteeringHouse();
        Checks.refused("without a THING", none, none.code(0, 0, 0, 0, 0), 1);
        Checks.refused("without a THING, of no numbers", none, none.code(MOST, LEAST, 0, 0, -1), 1);
        for (String text : new String[] {NONE, TWO}) {
            SteeringHouse other = Checks.house(text);
            Checks.refused(text, other, other.code(0, 0, 0, 0, 0), 5);
            Checks.refused(text + ", of no numbers", other, other.code(128, 0, 0, 0, 8), 5);
        }

        of("39", "2 (also of gains of states that there aren't).");
        for (int far : new int[] {-129, 128, LEAST, MOST}) {
            Checks.refused("first " + far, house, house.code(far, 0, 0, 0, 0), 2);
            Checks.refused("second " + far, house, house.code(0, far, 0, 0, 0), 2);
            Checks.refused("third " + far, house, house.code(0, 0, far, 0, 0), 2);
            Checks.refused("bias " + far, house, house.code(0, 0, 0, far, 0), 2);
        }
        for (int shift : new int[] {-1, 8, 32, LEAST, MOST}) {
            Checks.refused("shift " + shift, house, house.code(0, 0, 0, 0, shift), 2);
        }
        SteeringHouse one = Checks.house(LINE);
        one.code(0, 0, 0, 1, 0);
        Checks.refused("second of one state", one, one.code(0, 128, 0, 0, 0), 2);
        Checks.refused("third of one state", one, one.code(0, 0, -129, 0, 0), 2);
        due("the CODE of before", one.coded(0), 2);
        due("gains of states that there aren't are of no matter else", one.code(0, 127, -128, 0, 0), true);
        due("they count for nothing", one.coded(4), 1);
    }

    private static void codedCall() {
        of("40", "The PUSH that CODE tells in a CELL (0 gains, bias, shift until told).");
        SteeringHouse house = Checks.house(LINE);
        due("until told", house.coded(4), 1);
        SteeringHouse three = Checks.house("state x 3 to 4; state y 3 to 4; state z 3 to 4; push u -4 to 4");
        due("until told, of three gains", three.coded(7), 4);
        three.code(1, 1, 1, 1, 0);
        Checks.thing(three, "state x 3 to 4; state y 3 to 4; state z 3 to 4; push u -4 to 4");
        due("until told anew", three.coded(7), 4);
        house.code(1, 0, 0, -3, 0);
        due("the least", house.coded(0), 0);
        due("the most", house.coded(4), 2);
        due("trouble", house.trouble(), 0);
        due("one PUSH alone", Checks.house("state x 0 to 1; push u 5 to 5").coded(0), 0);

        of("40", "NONE: 1; 5.");
        for (int cell : NO_CELLS) {
            Checks.refused("CELL " + cell, house, house.coded(cell), 1);
        }
        for (String text : new String[] {NONE, TWO}) {
            SteeringHouse other = Checks.house(text);
            Checks.refused(text, other, other.coded(0), 5);
            Checks.refused(text + ", no CELL", other, other.coded(5), 1);
        }
        SteeringHouse none = new SteeringHouse();
        Checks.refused("without a THING", none, none.coded(0), 1);
    }

    private static void straysCall() {
        of("41", "STRAYS: how many.");
        SteeringHouse house = Checks.house(LINE);
        due("none", house.strays(), 0);
        house.code(0, 0, 0, 127, 0);
        due("one", house.strays(), 1);
        due("trouble", house.trouble(), 0);

        of("41", "NONE: 1; 5.");
        SteeringHouse none = new SteeringHouse();
        Checks.refused("without a THING", none, none.strays(), 1);
        for (String text : new String[] {NONE, TWO}) {
            SteeringHouse other = Checks.house(text);
            Checks.refused(text, other, other.strays(), 5);
        }
    }

    private static void walkCall() {
        of("42", "WALK from a CELL: how long the round is to which it comes; -2 if it goes OUT.");
        SteeringHouse house = Checks.house(LINE);
        due("it stays at the first", house.walk(0), 1);
        due("it stays at the last", house.walk(4), 1);
        house.code(-2, 0, 0, 1, 0);
        due("0, 1, 0", house.walk(0), 2);
        due("down to it", house.walk(4), 2);
        house.code(0, 0, 0, 1, 0);
        due("OUT", house.walk(0), -2);
        due("trouble of OUT", house.trouble(), 0);

        of("42", "NONE: 1; 5.");
        for (int cell : NO_CELLS) {
            Checks.refused("CELL " + cell, house, house.walk(cell), 1);
        }
        for (String text : new String[] {NONE, TWO}) {
            SteeringHouse other = Checks.house(text);
            Checks.refused(text, other, other.walk(0), 5);
            Checks.refused(text + ", no CELL", other, other.walk(5), 1);
        }
        SteeringHouse none = new SteeringHouse();
        Checks.refused("without a THING", none, none.walk(0), 1);
    }

    private static void claimCall() {
        of("43", "A claim: TICKS of a CELL (NONE: none any more): true;");
        SteeringHouse house = Checks.house(LINE);
        due("of the first", house.claim(0, 0), true);
        due("of the last", house.claim(4, 999), true);
        due("two", house.count(13), 2);
        due("none any more", house.claim(0, SteeringHouse.NONE), true);
        due("one", house.count(13), 1);
        due("none any more, again", house.claim(0, SteeringHouse.NONE), true);
        due("one", house.count(13), 1);
        due("none that never was", house.claim(2, SteeringHouse.NONE), true);
        due("one", house.count(13), 1);
        due("trouble", house.trouble(), 0);

        of("43", "false: 1; 2.");
        for (int cell : NO_CELLS) {
            Checks.refused("CELL " + cell, house, house.claim(cell, 0), 1);
            Checks.refused("CELL " + cell + ", no number", house, house.claim(cell, 1000), 1);
        }
        for (int ticks : new int[] {-2, 1000, LEAST, MOST}) {
            Checks.refused("ticks " + ticks, house, house.claim(4, ticks), 2);
        }
        due("one still", house.count(13), 1);
        SteeringHouse none = new SteeringHouse();
        Checks.refused("without a THING", none, none.claim(0, 0), 1);
    }

    private static void provedCall() {
        of("44", "PROVED of a CELL: 1, 0; NONE (1).");
        SteeringHouse house = Checks.house(LINE);
        due("no claim", house.proved(0), 0);
        Checks.goal(house, "x = 0");
        house.claim(0, 0);
        due("the first", house.proved(0), 1);
        due("not the last", house.proved(4), 0);
        due("trouble", house.trouble(), 0);
        for (int cell : NO_CELLS) {
            Checks.refused("CELL " + cell, house, house.proved(cell), 1);
        }
        SteeringHouse none = new SteeringHouse();
        Checks.refused("without a THING", none, none.proved(0), 1);
    }

    private static void breaksCall() {
        of("45", "BREAKS; NONE (1).");
        SteeringHouse house = Checks.house("state x 1 to 20; state y 1 to 20");
        due("none", house.breaks(), -2);
        due("trouble of none", house.trouble(), 0);
        house.claim(399, 999);
        due("the last", house.breaks(), 399);
        house.claim(0, 999);
        due("the first", house.breaks(), 0);
        SteeringHouse none = new SteeringHouse();
        Checks.refused("without a THING", none, none.breaks(), 1);
    }

    private static void troubleCall() {
        of("46", "TROUBLE.");
        SteeringHouse house = new SteeringHouse();
        due("at first", house.trouble(), 0);
        house.best(0, 0);
        due("of best", house.trouble(), 1);
        due("asked again", house.trouble(), 1);
        house.fault();
        house.where();
        house.feed(0, 0, 0, 0, 0);
        due("behind calls that can't be refused so", house.trouble(), 1);
        house.stays(1, 0, 0, 0);
        due("of stays", house.trouble(), 0);
    }
}
