/** Promises 1 to 14, sentence by sentence, at their edges: the tape, texts taken and refused, what is told of them. */
final class ThingEdges {
    private static final int LEAST = Checks.LEAST;
    private static final int MOST = Checks.MOST;
    private static final String PLAIN = "state x 0 to 4; push u -1 to 1; x = x + u";
    private static final String FULL = "state x 0 to 4; push u -1 to 1; world w 0 to 1; num k 1 to 2; sight s = x; "
            + "x = x + u";

    private ThingEdges() {
    }

    static void all() {
        newObject();
        calls();
        feeding();
        things();
        thingsRefused();
        good();
        goal();
        cost();
        faults();
        places();
        counts();
        cells();
        states();
        pushes();
        nexts();
        sights();
    }

    private static void of(int promise, String words) {
        Checks.of(Integer.toString(promise), words);
    }

    private static void due(String what, long got, long want) {
        Checks.due(what, got, want);
    }

    private static void refused(String what, SteeringHouse house, long got, int trouble) {
        Checks.refused(what, house, got, trouble);
    }

    private static void newObject() {
        of(1, "No THING.");
        SteeringHouse house = new SteeringHouse();
        due("trouble at first", house.trouble(), 0);
        due("fault at first", house.fault(), 0);
        due("place at first", house.where(), -1);
        due("bytes", house.count(11), 0);
        for (int what : new int[] {0, 1, 2, 3, 4, 5, 6, 7, 8, 9, 10, 12, 13}) {
            due("count " + what, house.count(what), -1);
        }
        due("cell", house.cell(0, 0, 0), -1);
        due("safe", house.safe(), -1);
        due("trouble of safe", house.trouble(), 1);
        due("a second object has nothing of a first one", Checks.thing(house, PLAIN)
                + new SteeringHouse().count(5), 4);

        Checks.of("constants", "`NONE = -1`: There is none; refused.");
        due("NONE", SteeringHouse.NONE, -1);
        due("refused", new SteeringHouse().thing(1), SteeringHouse.NONE);
        due("none", new SteeringHouse().where(), SteeringHouse.NONE);
    }

    private static void calls() {
        Checks.of("use", "An object is used for at most 512 calls after it has been made;");
        SteeringHouse house = Checks.house(PLAIN);
        for (int call = 5; call <= 512; call += 2) {
            due("call " + call, house.next(call % 5, 1, 0), call % 5);
            due("call " + (call + 1), house.trouble(), 0);
        }
        SteeringHouse told = new SteeringHouse();
        int made = 0;
        while (made + 8 <= 512) {
            due("feeds of " + PLAIN, Checks.thing(told, PLAIN), 5);
            due("safe", told.safe(), 5);
            due("margin", told.margin(0), 2);
            due("can", told.can(0), 5);
            due("best", told.best(0, 20), 0);
            made += 8;
        }
    }

    private static void feeding() {
        of(2, "Twenty bytes come behind THE TAPE,");
        SteeringHouse house = new SteeringHouse();
        Checks.feed(house, "state x 0 to 1; stat");
        Checks.feed(house, "e y 0 to 2; x = y   ");
        due("both feeds are one text", house.thing(40), 6);
        due("the tape is empty", house.feed(0, 0, 0, 0, 0), 20);

        of(2, "of each number the highest first:");
        house = new SteeringHouse();
        house.feed('s' << 24 | 't' << 16 | 'a' << 8 | 't', 'e' << 24 | ' ' << 16 | 'x' << 8 | ' ',
                '0' << 24 | ' ' << 16 | 't' << 8 | 'o', ' ' << 24 | '1' << 16 | ' ' << 8 | ' ', 538976288);
        due("four bytes a number", house.thing(14), 2);
        int[] numbers = {LEAST, -1, 255, MOST, 0x20202080};
        int[] places = {0, 0, 0, 0, 3};
        for (int i = 0; i < numbers.length; i++) {
            house.feed(numbers[i], numbers[i], numbers[i], numbers[i], numbers[i]);
            due("bytes that begin no TOKEN", house.thing(20), -1);
            due("fault", house.fault(), 1);
            due("place", house.where(), places[i]);
        }

        of(2, "how many it has;");
        house = new SteeringHouse();
        for (int feeds = 1; feeds <= 20; feeds++) {
            due("feed " + feeds, house.feed(538976288, 538976288, 538976288, 538976288, 538976288), 20 * feeds);
        }

        of(2, "NONE, and none comes, if there would be more than 400.");
        for (int i = 0; i < 3; i++) {
            due("beyond 400", house.feed(-1, -1, -1, -1, -1), -1);
            due("none came", house.count(11), 400);
        }
        due("trouble as it was: no number is told", house.trouble(), 0);
        house.thing(400);
        due("none came in place of another", house.fault() * 1000 + house.where(), 1400);
        due("room again", house.feed(0, 0, 0, 0, 0), 20);
        house = new SteeringHouse();
        Checks.feed(house, " ".repeat(380) + "state x 0 to 1      ");
        due("beyond 400", house.feed(-1, -1, -1, -1, -1), -1);
        due("the text is whole", house.thing(400), 2);
    }

    private static void things() {
        of(3, "The first n bytes of THE TAPE");
        SteeringHouse house = new SteeringHouse();
        Checks.feed(house, "state x 0 to 19");
        due("a byte less", house.thing(14), 2);
        Checks.feed(house, "state x 0 to 19");
        due("all of them", house.thing(15), 20);
        Checks.feed(house, "state x 0 to 19");
        due("blanks behind them, too", house.thing(20), 20);
        Checks.feed(house, "state x 0 to 1?");
        due("what is behind them is of no matter", house.thing(14), 2);

        of(3, "(it is empty then)");
        due("nothing is left of it", house.count(11), 0);
        due("so there is no byte", house.thing(1), -1);
        due("trouble 2", house.trouble(), 2);
        due("an empty text can be read", house.thing(0), -1);
        due("trouble 4", house.trouble(), 4);

        of(3, "are the THING from now on (GOOD, GOAL, COST, CODE, claims, WATCHER as at first):");
        house = Checks.house(PLAIN);
        Checks.good(house, "x > 0");
        Checks.goal(house, "x = 4");
        Checks.cost(house, "7");
        house.code(1, 0, 0, 1, 0);
        house.claim(4, 0);
        house.tick(1);
        due("GOOD is told", house.count(9), 4);
        due("the same text", Checks.thing(house, PLAIN), 5);
        due("GOOD", house.count(9), 5);
        due("GOAL", house.ticks(4), -2);
        due("COST", house.best(0, 20), 0);
        due("CODE", house.coded(4), 1);
        due("claims", house.count(13), 0);
        due("claim of a cell", house.proved(4), 0);
        due("ticks", house.count(12), 0);
        due("can", house.can(0), 5);
        house = Checks.house(FULL);
        house.told(0, 0, 3);
        due("one is told", house.can(0), 1);
        Checks.thing(house, FULL);
        due("sights told", house.can(0), 5);
        due("they can be told again", house.told(0, 0, 3) ? 1 : 0, 1);

        afterLargerOnes();

        of(3, "how many CELLS.");
        due("least", Checks.thing(house, "state x 7 to 7"), 1);
        due("most", Checks.thing(house, "state x 1 to 20; state y 1 to 20"), 400);
        due("from large to small", Checks.thing(house, PLAIN), 5);
    }

    /** What a larger thing left behind is of no matter to a smaller one. */
    private static void afterLargerOnes() {
        SteeringHouse house = Checks.house("state x 1 to 20; state y 1 to 10; push u 0 to 2; push v 0 to 2; "
                + "world w 0 to 8; num k 0 to 2; sight s = x + y; sight r = y");
        Checks.goal(house, "x = 1");
        Checks.cost(house, "x + u");
        due("all are safe", house.safe(), 200);
        due("all nine", house.allowed(199), 511);
        due("margin", house.margin(199), 2);
        due("ticks", house.ticks(0), 0);
        due("best", house.best(199, 20), 400);
        due("rank", house.rank(true), 2);
        due("strays are refused", house.strays(), -1);
        for (int tick = 1; tick <= 30; tick++) {
            house.tick(8);
        }
        due("can", house.can(4), 200);
        house.claim(0, 0);
        house.claim(199, 0);
        due("breaks", house.breaks(), 199);
        Checks.thing(house, "state x 0 to 2; push u 0 to 1; num k 1 to 2; sight s = x; x = x + 1 + u");
        due("it goes OUT", house.safe(), 0);
        due("in round 1", house.layer(2), 1);
        due("in round 3", house.layer(0), 3);
        due("no PUSH", house.allowed(0), 0);
        due("no margin", house.margin(0), -2);
        due("no GOAL", house.ticks(1), -2);
        due("no COST", house.best(0, 1), 0);
        due("LOST", house.best(0, 3), 1000000);
        due("one state", house.rank(true), 1);
        due("one factor", house.form(0), -1);
        due("all at first", house.can(2), 3);
        due("nums", house.fit(), 2);
        due("least", house.guess(0, false), 0);
        due("most", house.guess(0, true), 2);
        due("no claim", house.breaks(), -2);
        due("NEXT", house.next(0, 1, 1), 2);
        due("STEPS", house.count(8), 1);
        Checks.goal(house, "x = 2");
        due("TICKS", house.ticks(0), 1);
        due("LAW", house.law(0), 1);
        Checks.thing(house, "state x 0 to 2; sight s = 0 * x");
        due("safe again", house.safe(), 3);
        due("not in a round", house.layer(0), 0);
        due("C anew", house.rank(true), 0);
        due("best again", house.best(0, 3), 0);
        due("no GOAL again", house.ticks(2), -2);
    }

    private static void thingsRefused() {
        of(3, "NONE: 2 (THE TAPE stays);");
        SteeringHouse house = Checks.house(PLAIN);
        Checks.feed(house, "state x 0 to 1");
        for (int n : new int[] {-1, 21, 400, 401, LEAST, MOST}) {
            refused("thing(" + n + ")", house, house.thing(n), 2);
            due("the tape", house.count(11), 20);
            due("the thing", house.count(5), 5);
        }
        due("it can be read still", house.thing(20), 2);

        of(3, "4 (the THING stays).");
        Checks.thing(house, PLAIN);
        Checks.good(house, "x > 0");
        Checks.goal(house, "x = 4");
        Checks.cost(house, "7");
        house.code(0, 0, 0, 1, 0);
        house.claim(4, 0);
        house.tick(1);
        for (String text : new String[] {"", "state x 0 to 1;", "state y 0 to 21", "q", "push u 0 to 1", "state x 0 "
                + "to 1; x = q"}) {
            refused("thing of " + text, house, Checks.thing(house, text), 4);
            due("the tape is empty", house.count(11), 0);
            due("CELLS", house.count(5), 5);
            due("PUSHES", house.count(6), 3);
            due("STEPS", house.count(8), 1);
            due("GOOD CELLS", house.count(9), 4);
            due("claims", house.count(13), 1);
            due("ticks", house.count(12), 1);
            due("NEXT", house.next(1, 2, 0), 2);
            due("GOAL", house.ticks(1), 3);
            due("COST", house.best(1, 1), 7);
            due("CODE", house.coded(0), 2);
            due("its NAMES", Checks.good(house, "x > 0"), 4);
            due("and no others", Checks.good(house, "y = 0"), -1);
            due("COST of its NAMES", Checks.cost(house, "7 + x - x + u - u"), 0);
        }
    }

    /** What good(), goal() and cost() have in common; which: 0, 1, 2. */
    private static int wish(SteeringHouse house, int which, int n) {
        return which == 0 ? house.good(n) : which == 1 ? house.goal(n) : house.cost(n);
    }

    private static void wishWithoutThing(int which) {
        SteeringHouse house = new SteeringHouse();
        for (int n : new int[] {0, -1, 1, 21, LEAST, MOST}) {
            refused("without a THING, of " + n, house, wish(house, which, n), 1);
        }
        Checks.feed(house, "x = 1");
        refused("without a THING", house, wish(house, which, 5), 1);
        due("the tape", house.count(11), 20);
        due("the fault", house.fault(), 0);
    }

    private static void wishOfNumbers(int which, String text) {
        SteeringHouse house = Checks.house(FULL);
        Checks.feed(house, text);
        for (int n : new int[] {-1, 21, 401, LEAST, MOST}) {
            refused("of " + n, house, wish(house, which, n), 2);
            due("the tape", house.count(11), 20);
        }
        due("it can be read still", wish(house, which, 20) >= 0 ? 1 : 0, 1);
        due("the tape is empty then", house.count(11), 0);
    }

    private static void wishFault(int which, String text, int number, int place) {
        SteeringHouse house = Checks.house(FULL);
        Checks.good(house, "x < 3");
        Checks.goal(house, "x = 2");
        Checks.cost(house, "5");
        Checks.feed(house, text);
        refused("of " + text, house, wish(house, which, text.length()), 4);
        due("fault of " + text, house.fault(), number);
        due("place of " + text, house.where(), place);
        due("the tape behind " + text, house.count(11), 0);
        due("GOOD behind " + text, house.count(9), 3);
        due("GOAL behind " + text, house.ticks(2), 0);
        due("COST behind " + text, house.best(0, 1), 5);
    }

    private static void testFaults(int which) {
        wishFault(which, "", 1, 0);
        wishFault(which, "   ", 1, 3);
        wishFault(which, "x", 1, 1);
        wishFault(which, "x =", 1, 3);
        wishFault(which, "x = 1 and", 1, 9);
        wishFault(which, "x = 1 x", 1, 6);
        wishFault(which, "x = 1;", 1, 5);
        wishFault(which, "x = 1 ?", 1, 6);
        wishFault(which, "x = 1000", 1, 4);
        wishFault(which, "x = if", 1, 4);
        wishFault(which, "state = 1", 1, 0);
        wishFault(which, "x = q", 2, 4);
        wishFault(which, "u = 1", 2, 0);
        wishFault(which, "x = w", 2, 4);
        wishFault(which, "k > 1", 2, 0);
        wishFault(which, "s = 1", 2, 0);
        wishFault(which, "x = 1 and s = 1", 2, 10);
        wishFault(which, "1=" + "1+".repeat(59) + "1", 5, 120);
    }

    private static void good() {
        of(4, "They are the TEST of GOOD: how many CELLS.");
        SteeringHouse house = Checks.house(FULL);
        due("none", Checks.good(house, "x > 4"), 0);
        due("GOOD CELLS", house.count(9), 0);
        due("all", Checks.good(house, "x < 5"), 5);
        due("one", Checks.good(house, "x = 4"), 1);
        due("GOOD CELLS", house.count(9), 1);
        due("sixty factors", Checks.good(house, "x=" + "0+".repeat(58) + "0"), 1);
        Checks.feed(house, "x = 12");
        due("the first n bytes", house.good(5), 1);
        due("CELL 1", house.layer(1), 0);
        due("400 cells", Checks.good(Checks.house("state x 1 to 20; state y 1 to 20"), "x > 0"), 400);

        of(4, "NONE: 1 (THE TAPE stays),");
        wishWithoutThing(0);

        of(4, "2 (likewise);");
        wishOfNumbers(0, "x = 1");

        of(4, "4 (a NAME that is no state is 2).");
        testFaults(0);
    }

    private static void goal() {
        of(5, "They are the TEST of the GOAL: how many CELLS are at it, GOOD or not.");
        SteeringHouse house = Checks.house(FULL);
        due("none", Checks.goal(house, "x > 4"), 0);
        due("all", Checks.goal(house, "x < 5"), 5);
        Checks.good(house, "x < 2");
        due("GOOD or not", Checks.goal(house, "x > 0"), 4);
        due("a GOOD one", house.ticks(1), 0);
        due("one that isn't", house.ticks(2), -2);
        Checks.good(house, "x > 9");
        due("none is GOOD", Checks.goal(house, "x > 0"), 4);

        of(5, "NONE likewise.");
        wishWithoutThing(1);
        wishOfNumbers(1, "x = 1");
        testFaults(1);
    }

    private static void cost() {
        of(6, "They are the SUM of COST: 0.");
        SteeringHouse house = Checks.house(FULL);
        due("a number", Checks.cost(house, "999"), 0);
        due("it is paid", house.best(0, 1), 999);
        due("a state and a push", Checks.cost(house, "10 * x + 3 - u"), 0);
        due("it is paid", house.best(2, 1), 22);
        due("sixty factors", Checks.cost(house, "1+".repeat(59) + "1"), 0);
        due("all are paid", house.best(0, 1), 60);

        of(6, "NONE likewise (a NAME that is no state, push is 2).");
        wishWithoutThing(2);
        wishOfNumbers(2, "x + u");
        wishFault(2, "", 1, 0);
        wishFault(2, "   ", 1, 3);
        wishFault(2, "x = 1", 1, 2);
        wishFault(2, "x u", 1, 2);
        wishFault(2, "x +", 1, 3);
        wishFault(2, "x;", 1, 1);
        wishFault(2, "x + and", 1, 4);
        wishFault(2, "0 + q", 2, 4);
        wishFault(2, "u * w", 2, 4);
        wishFault(2, "k", 2, 0);
        wishFault(2, "x - s", 2, 4);
        wishFault(2, "1+".repeat(60) + "1", 5, 120);
    }

    private static void faults() {
        of(7, "The FAULT of the latest thing(), good(), goal(), cost() not refused by 1, 2;");
        SteeringHouse house = new SteeringHouse();
        Checks.thing(house, "state x 0 to 21");
        due("of thing", house.fault(), 4);
        house.good(0);
        due("good refused by 1", house.fault(), 4);
        house.goal(0);
        due("goal refused by 1", house.fault(), 4);
        house.cost(0);
        due("cost refused by 1", house.fault(), 4);
        house.thing(1);
        due("thing refused by 2", house.fault(), 4);
        house.safe();
        due("another call refused", house.fault(), 4);
        Checks.thing(house, PLAIN);
        Checks.good(house, "q = 1");
        due("of good", house.fault(), 2);
        house.good(1);
        due("good refused by 2", house.fault(), 2);
        Checks.goal(house, "x");
        due("of goal", house.fault(), 1);
        house.goal(-1);
        due("goal refused by 2", house.fault(), 1);
        Checks.cost(house, "1+".repeat(60) + "1");
        due("of cost", house.fault(), 5);
        house.cost(500);
        due("cost refused by 2", house.fault(), 5);
        house.next(0, 0, 0);
        due("another call", house.fault(), 5);
        Checks.thing(house, "state x 0 to 1; num x");
        due("of thing", house.fault(), 3);

        of(7, "0 without one.");
        due("a new object", new SteeringHouse().fault(), 0);
        Checks.thing(house, PLAIN);
        due("a fine thing", house.fault(), 0);
        Checks.good(house, "x");
        Checks.good(house, "x = 1");
        due("a fine good", house.fault(), 0);
        Checks.goal(house, "x");
        Checks.goal(house, "x = 1");
        due("a fine goal", house.fault(), 0);
        Checks.cost(house, "x x");
        Checks.cost(house, "x");
        due("a fine cost", house.fault(), 0);
        Checks.cost(house, "x x");
        Checks.good(house, "x = 1");
        due("the latest of all four", house.fault(), 0);
    }

    private static void places() {
        of(8, "Its place, if the latest call that may be refused was by 4;");
        SteeringHouse house = new SteeringHouse();
        house.thing(0);
        due("place 0", house.where(), 0);
        Checks.thing(house, "state x 0 to 1 ?");
        due("place 15", house.where(), 15);
        house.where();
        house.fault();
        house.trouble();
        house.count(0);
        house.layer(0);
        house.feed(0, 0, 0, 0, 0);
        due("behind calls that tell no number", house.where(), 15);
        house.thing(0);
        Checks.feed(house, " ".repeat(400));
        house.thing(400);
        due("place 400", house.where(), 400);

        of(8, "NONE else.");
        due("a new object", new SteeringHouse().where(), -1);
        house.safe();
        due("refused by 1", house.where(), -1);
        due("though the FAULT is the same", house.fault(), 1);
        house.thing(0);
        house.thing(-1);
        due("refused by 2", house.where(), -1);
        Checks.thing(house, PLAIN);
        due("not refused", house.where(), -1);
        house.good(0);
        due("refused by 4", house.where(), 0);
        house.next(0, 0, 0);
        due("not refused", house.where(), -1);
        house.good(0);
        house.stays(1, 0, 0, 0);
        due("not refused", house.where(), -1);
    }

    private static void counts() {
        of(9, "0 states, 1 pushes, 2 worlds, 3 nums, 4 sights, 5 CELLS, 6 PUSHES, 7 WORLDS, 8 STEPS, 9 GOOD CELLS, "
                + "10 whether LINEAR (1), 11 bytes of THE TAPE, 12 ticks of the WATCHER, 13 claims.");
        SteeringHouse house = Checks.house("state x 1 to 1");
        int[] least = {1, 0, 0, 0, 0, 1, 1, 1, 0, 1, 1, 0, 0, 0};
        for (int what = 0; what < least.length; what++) {
            due("least: count " + what, house.count(what), least[what]);
        }
        Checks.thing(house, "state x 1 to 20;state y 1 to 5;state z 1 to 4;push u 0 to 2;push v 0 to 2;world w 0 to "
                + "2;world d 0 to 2;num k 0 to 2;num m 0 to 0;sight s=x;sight r=y;x=x if "
                + "x=1;x=y;x=z;y=x;y=y;y=z;z=x;z=y");
        int[] most = {3, 2, 2, 2, 2, 400, 9, 27, 8, 400, 0, 400, 30, 400};
        for (int tick = 0; tick < 30; tick++) {
            house.tick(0);
        }
        for (int cell = 0; cell < 400; cell++) {
            house.claim(cell, 0);
        }
        Checks.feed(house, " ".repeat(400));
        for (int what = 0; what < most.length; what++) {
            due("most: count " + what, house.count(what), most[what]);
        }

        of(9, "NONE for others, and (but 11) without a THING.");
        for (int what : new int[] {-1, 14, 15, LEAST, MOST}) {
            due("count " + what, house.count(what), -1);
        }
        SteeringHouse none = new SteeringHouse();
        for (int what : new int[] {LEAST, -1, 0, 1, 2, 3, 4, 5, 6, 7, 8, 9, 10, 12, 13, 14, MOST}) {
            due("without a THING: count " + what, none.count(what), -1);
        }
        due("but 11", none.count(11), 0);
        none.feed(0, 0, 0, 0, 0);
        due("but 11", none.count(11), 20);
    }

    private static void cells() {
        of(10, "The CELL of values (of states that there aren't: of no matter);");
        SteeringHouse one = Checks.house("state x -20 to 20");
        due("the least", one.cell(-20, 0, 0), 0);
        due("the most", one.cell(20, 0, 0), 40);
        due("others are of no matter", one.cell(0, LEAST, MOST), 20);
        SteeringHouse two = Checks.house("state x 0 to 1; state y -1 to 1");
        due("the least", two.cell(0, -1, MOST), 0);
        due("the most", two.cell(1, 1, LEAST), 5);
        SteeringHouse three = Checks.house("state x 1 to 10; state y 1 to 10; state z 1 to 4");
        due("the least", three.cell(1, 1, 1), 0);
        due("the most", three.cell(10, 10, 4), 399);

        of(10, "NONE if one leaves its SPAN, without a THING.");
        for (int x : new int[] {-21, 21, LEAST, MOST}) {
            due("x " + x, one.cell(x, 0, 0), -1);
        }
        due("the first", two.cell(2, 0, 0), -1);
        due("the first, below", two.cell(-1, 0, 0), -1);
        due("the second", two.cell(0, 2, 0), -1);
        due("the second, below", two.cell(0, -2, 0), -1);
        due("the third", three.cell(1, 1, 5), -1);
        due("the third, below", three.cell(1, 1, 0), -1);
        due("all", three.cell(LEAST, MOST, LEAST), -1);
        due("without a THING", new SteeringHouse().cell(0, 0, 0), -1);
    }

    private static void states() {
        of(11, "A state's value in a CELL; -2^31 for none such.");
        SteeringHouse house = Checks.house("state x -20 to 20");
        due("the least", house.state(0, 0), -20);
        due("the most", house.state(40, 0), 20);
        for (int cell : new int[] {-1, 41, 400, LEAST, MOST}) {
            due("CELL " + cell, house.state(cell, 0), Checks.NO_VALUE);
        }
        for (int i : new int[] {-1, 1, 2, 3, LEAST, MOST}) {
            due("state " + i, house.state(0, i), Checks.NO_VALUE);
        }
        SteeringHouse three = Checks.house("state x 1 to 10; state y 1 to 10; state z 1 to 4");
        due("the last of the last", three.state(399, 2), 4);
        due("a fourth", three.state(399, 3), Checks.NO_VALUE);
        due("without a THING", new SteeringHouse().state(0, 0), Checks.NO_VALUE);
    }

    private static void pushes() {
        of(12, "A push's value of a PUSH; -2^31 for none such.");
        SteeringHouse house = Checks.house("state x 0 to 1; push u -1 to 1; push v 5 to 7");
        due("the least", house.push(0, 0), -1);
        due("the least", house.push(0, 1), 5);
        due("the most", house.push(8, 0), 1);
        due("the most", house.push(8, 1), 7);
        for (int push : new int[] {-1, 9, LEAST, MOST}) {
            due("PUSH " + push, house.push(push, 0), Checks.NO_VALUE);
        }
        for (int i : new int[] {-1, 2, 3, LEAST, MOST}) {
            due("push " + i, house.push(0, i), Checks.NO_VALUE);
        }
        SteeringHouse none = Checks.house("state x 0 to 1");
        due("PUSH 0 has none", none.push(0, 0), Checks.NO_VALUE);
        due("without a THING", new SteeringHouse().push(0, 0), Checks.NO_VALUE);
    }

    private static void nexts() {
        of(13, "NEXT; -2: OUT.");
        SteeringHouse house = Checks.house("state x 0 to 9; push u 0 to 2; world w 0 to 1; num k 0 to 1; "
                + "x = x + u + w + k");
        due("the least of all", house.next(0, 0, 0), 0);
        due("the most of all", house.next(5, 2, 3), 9);
        due("the last CELL", house.next(9, 0, 0), 9);
        due("OUT", house.next(9, 0, 1), -2);
        due("trouble of OUT", house.trouble(), 0);
        due("OUT by the most", house.next(9, 2, 3), -2);

        of(13, "NONE: 1.");
        for (int cell : new int[] {-1, 10, LEAST, MOST}) {
            refused("CELL " + cell, house, house.next(cell, 0, 0), 1);
        }
        for (int push : new int[] {-1, 3, LEAST, MOST}) {
            refused("PUSH " + push, house, house.next(0, push, 0), 1);
        }
        for (int world : new int[] {-1, 4, LEAST, MOST}) {
            refused("WORLD " + world, house, house.next(0, 0, world), 1);
        }
        SteeringHouse none = new SteeringHouse();
        refused("without a THING", none, none.next(0, 0, 0), 1);
    }

    private static void sights() {
        of(14, "A sight's value in a CELL to which a PUSH and WORLD led; -2^31 for none such.");
        SteeringHouse house = Checks.house("state x 0 to 9; push u 0 to 2; world w 0 to 1; num k 0 to 1; "
                + "sight s = x + 10 * u; sight r = 10 * w + k");
        due("the first", house.sight(9, 2, 0, 0), 29);
        due("the second", house.sight(0, 0, 3, 1), 11);
        for (int cell : new int[] {-1, 10, LEAST, MOST}) {
            due("CELL " + cell, house.sight(cell, 0, 0, 0), Checks.NO_VALUE);
        }
        for (int push : new int[] {-1, 3, LEAST, MOST}) {
            due("PUSH " + push, house.sight(0, push, 0, 0), Checks.NO_VALUE);
        }
        for (int world : new int[] {-1, 4, LEAST, MOST}) {
            due("WORLD " + world, house.sight(0, 0, world, 0), Checks.NO_VALUE);
        }
        for (int i : new int[] {-1, 2, LEAST, MOST}) {
            due("sight " + i, house.sight(0, 0, 0, i), Checks.NO_VALUE);
        }
        due("no sight at all", Checks.house("state x 0 to 1").sight(0, 0, 0, 0), Checks.NO_VALUE);
        due("without a THING", new SteeringHouse().sight(0, 0, 0, 0), Checks.NO_VALUE);
        due("a sum beyond its bounds", Checks.house("state x 0 to 1; "
                + "sight s = 999 * 999 * 999").sight(1, 0, 0, 0), 1000000);
    }
}
