import java.util.NoSuchElementException;

/** Terms II and promises 15 to 23, sentence by sentence, at their edges: wishes, what is kept, reached and paid. */
final class WishEdges {
    private static final int LEAST = Checks.LEAST;
    private static final int MOST = Checks.MOST;
    private static final int LOST = 1000000;
    private static final int THROWN = 77777;
    private static final String LINE = "state x 0 to 4; push u -1 to 1; x = x + u";
    private static final String CHAIN = "state x 1 to 20; state y 1 to 20; y = y + 1 if y < 20; y = 1; "
            + "x = x + 1 if y = 20";
    private static final int[] NO_CELLS = {-1, 5, 400, LEAST, MOST};

    private WishEdges() {
    }

    static void all() {
        goods();
        goals();
        costs();
        safe();
        allowed();
        layers();
        ticks();
        best();
        worst();
        margins();
        widest();
        safeCall();
        layerCall();
        allowedCall();
        ticksCall();
        lawCall();
        bestCall();
        bestLawCall();
        worstCall();
        marginCall();
    }

    private static void of(String part, String words) {
        Checks.of(part, words);
    }

    private static void due(String what, long got, long want) {
        Checks.due(what, got, want);
    }

    private static int worst(SteeringHouse house, int cell, int horizon, int i) {
        try {
            return house.worst(cell, horizon, i);
        } catch (NoSuchElementException none) {
            return THROWN;
        }
    }

    private static void goods() {
        of("II", "GOOD: CELLS at which a TEST (of states alone) holds;");
        SteeringHouse house = Checks.house("state x 0 to 4; state y 0 to 1; push u 0 to 1");
        due("none", Checks.good(house, "x < 0"), 0);
        due("all", Checks.good(house, "x + y > - 1"), 10);
        due("one", Checks.good(house, "x * y = 4"), 1);
        due("it is the last", house.layer(9), 0);
        due("not the one ahead", house.layer(8), -2);
        due("not of pushes", Checks.good(house, "u = 0"), -1);
        due("fault", house.fault(), 2);

        of("II", "all until told.");
        due("all", Checks.house(LINE).count(9), 5);
        due("all 400", Checks.house(CHAIN).count(9), 400);
        due("the only one", Checks.house("state x 3 to 3").count(9), 1);
        due("and safe", Checks.house("state x 3 to 3").safe(), 1);
        SteeringHouse many = Checks.house("state x 1 to 20; state y 1 to 20; push u 0 to 1; x = x + u if x < 20");
        due("those at two sides", Checks.good(many, "x * y < 40"), 112);
        for (int cell = 0; cell < 400; cell++) {
            boolean good = many.state(cell, 0) * many.state(cell, 1) < 40;
            due("GOOD, and it stays: " + cell, many.layer(cell), good ? 0 : -2);
            boolean right = (many.state(cell, 0) + 1) * many.state(cell, 1) < 40 || many.state(cell, 0) == 20;
            due("ALLOWED: " + cell, many.allowed(cell), good ? right ? 3 : 1 : 0);
            due("BEST: " + cell, many.best(cell, 0), good ? 0 : LOST);
        }
    }

    private static void goals() {
        of("II", "GOAL likewise;");
        SteeringHouse house = Checks.house(LINE);
        due("none", Checks.goal(house, "x > 4"), 0);
        due("no ticks", house.ticks(4), -2);
        due("all", Checks.goal(house, "x > - 1"), 5);
        due("at it", house.ticks(4), 0);
        due("not of pushes", Checks.goal(house, "u = 0"), -1);
        due("fault", house.fault(), 2);

        of("II", "none until told.");
        house = Checks.house(LINE);
        for (int cell = 0; cell < 5; cell++) {
            due("no ticks of " + cell, house.ticks(cell), -2);
        }
    }

    private static void costs() {
        of("II", "COST: a SUM of states and pushes,");
        SteeringHouse house = Checks.house(LINE);
        Checks.cost(house, "100 * x + 10 * u + 10");
        due("push -1, there", house.best(4, 1), 400);
        due("push 0, where -1 leads out", house.best(0, 1), 10);
        due("not of worlds", Checks.cost(Checks.house("state x 0 to 1; world w 0 to 1"), "w"), -1);

        of("II", "0 until told;");
        house = Checks.house(LINE);
        due("over 20", house.best(4, 20), 0);

        of("II", "below 0 it counts as 0, above 1,000 as that.");
        String[] sums = {"0", "1", "- 1", "999 + 1", "999 + 2", "999 + 0", "999 * 999 * 999", "- 999 * 999 * 999"};
        int[] paid = {0, 1, 0, 1000, 1000, 999, 1000, 0};
        for (int i = 0; i < sums.length; i++) {
            Checks.cost(house, sums[i]);
            due("cost " + sums[i], house.best(2, 1), paid[i]);
            due("twenty times " + sums[i], house.best(2, 20), 20 * paid[i]);
        }
        Checks.cost(house, "x - 3");
        due("below", house.best(2, 1), 0);
        due("at 0", house.best(3, 1), 0);
        due("above", house.best(4, 1), 1);
    }

    private static void safe() {
        of("II", "SAFE: the largest set of GOOD CELLS of each of which some PUSH leads into the set by every WORLD.");
        SteeringHouse ring = Checks.house("state x 0 to 3; x = 1 - x if x < 2; x = x + 1");
        due("two that lead to one another", ring.safe(), 2);
        due("one of them", ring.allowed(0), 1);
        due("one that leads to one that goes", ring.allowed(2), 0);
        Checks.good(ring, "x > 0");
        due("without the other none", ring.safe(), 0);
        String worlds = "state x 0 to 3; push u 0 to 8; world w -6 to 20; x = 9 if x = 3; x = 3 if u < 8; "
                + "x = 3 if w = ";
        due("the last of 27 WORLDS leads to one that goes", Checks.house(worlds + "20; x = 0").safe(), 0);
        due("the first of them", Checks.house(worlds + "-6; x = 0").safe(), 0);
        due("by every WORLD the last of 9 PUSHES keeps it", Checks.house(worlds + "21; x = 0").safe(), 3);
        due("all 400", Checks.house("state x 1 to 20; state y 1 to 20").safe(), 400);
        due("none of 400", Checks.house(CHAIN).safe(), 0);
        due("OUT is in no set", Checks.house("state x 0 to 1; x = 9").safe(), 0);
        due("OUT below, too", Checks.house("state x 0 to 1; x = - 1").safe(), 0);
        for (int cells : new int[] {31, 32, 33}) {
            String text = "state x 1 to " + (cells == 33 ? 11 : cells == 32 ? 16 : 1) + "; state y 1 to "
                    + (cells == 33 ? 3 : cells == 32 ? 2 : 1) + "; state z -10 to " + (cells == 31 ? 20 : -10);
            due(cells + " cells that stay", Checks.house(text).safe(), cells);
            due(cells + " cells that go out", Checks.house(text + "; x = 19").safe(), 0);
        }
    }

    private static void allowed() {
        of("II", "ALLOWED of a SAFE CELL: those PUSHES.");
        SteeringHouse house = Checks.house(LINE);
        due("not the least", house.allowed(0), 6);
        due("all", house.allowed(2), 7);
        due("not the most", house.allowed(4), 3);
        SteeringHouse nine = Checks.house("state x 0 to 2; push u 0 to 8; world w 0 to 1; x = 9 if u < 8 and x = 1; "
                + "x = 9 if u = 8 and x = 2 and w = 1");
        due("all nine", nine.allowed(0), 511);
        due("only the last", nine.allowed(1), 256);
        due("all but the last, which one WORLD takes out", nine.allowed(2), 255);
        Checks.good(nine, "x > 0");
        due("not GOOD, so not SAFE", nine.allowed(0), 0);
    }

    private static void layers() {
        of("II", "LAYER of a GOOD CELL that isn't SAFE: in which round it went: 1 if none of its PUSHES leads to "
                + "GOOD CELLS alone,");
        SteeringHouse house = Checks.house("state x 0 to 5; push u 1 to 2; world w 0 to 1; x = x + u + w");
        due("beyond at once", house.layer(5), 1);
        due("by one WORLD of each PUSH", house.layer(4), 1);
        due("by the least PUSH it doesn't", house.layer(3), 2);
        Checks.good(house, "x < 4");
        due("into what isn't GOOD", house.layer(3), 1);
        due("or by one WORLD", house.layer(2), 1);
        due("not GOOD itself", house.layer(4), -2);

        of("II", "then 2 if none leads to those that are left alone, and so on.");
        due("two rounds", house.layer(1), 2);
        due("and two", house.layer(0), 2);
        SteeringHouse chain = Checks.house(CHAIN);
        for (int cell = 0; cell < 400; cell++) {
            due("layer of " + cell, chain.layer(cell), 400 - cell);
        }
        SteeringHouse rows = Checks.house("state x 1 to 20; state y 1 to 20; x = x + 1 if y < 20");
        for (int cell = 0; cell < 400; cell++) {
            due("many in one round: " + cell, rows.layer(cell), cell % 20 == 19 ? 0 : 20 - cell / 20);
        }
        Checks.good(rows, "x * 20 + y < 255");
        for (int cell = 0; cell < 400; cell++) {
            int last = cell % 20 < 14 ? 12 : 11;
            int round = cell / 20 >= last ? -2 : cell % 20 == 19 ? 0 : last - cell / 20;
            due("many in one round, to what isn't GOOD: " + cell, rows.layer(cell), round);
        }
        SteeringHouse first = Checks.house("state x 0 to 3; x = 99 if x = 0; x = x - 1 if x < 3");
        for (int cell = 0; cell < 4; cell++) {
            due("CELL 0 goes alone: " + cell, first.layer(cell), cell < 3 ? cell + 1 : 0);
        }
        SteeringHouse apart = Checks.house("state x -20 to 19; x = 99 if x = - 20; x = 99 if x = 12; "
                + "x = 12 if x = - 15; x = - 20 if x = 5");
        for (int cell = 0; cell < 40; cell++) {
            int round = cell == 0 || cell == 32 ? 1 : cell == 5 || cell == 25 ? 2 : 0;
            due("CELLS 0 and 32 go: " + cell, apart.layer(cell), round);
        }
        Checks.good(rows, "x > 0");
        Checks.thing(rows, "state x 0 to 1; push u 0 to 1; x = x + u");
        due("now safe", rows.layer(0), 0);
        Checks.good(rows, "x = 2");
        due("not GOOD", rows.layer(0), -2);
        Checks.good(rows, "x = 0");
        due("safe again", rows.layer(0), 0);
        SteeringHouse turn = Checks.house("state x 0 to 1; x = 1 - x");
        Checks.good(turn, "x = 0");
        due("into what isn't GOOD", turn.layer(0), 1);
        Checks.good(turn, "x > - 1");
        due("GOOD now", turn.layer(0), 0);
    }

    private static void ticks() {
        of("II", "TICKS of a GOOD CELL: 0 at the GOAL (a GOOD one);");
        SteeringHouse house = Checks.house(LINE);
        Checks.goal(house, "x > 2");
        due("at the GOAL", house.ticks(3), 0);
        Checks.good(house, "x < 4");
        due("a GOOD one", house.ticks(3), 0);
        due("one that isn't GOOD", house.ticks(4), -2);
        Checks.good(house, "x < 3");
        due("none of the GOAL is GOOD", house.ticks(2), -2);

        of("II", "k if it has no less and some PUSH leads by every WORLD to CELLS with TICKS below k, and one with k "
                + "- 1");
        SteeringHouse wind = Checks.house("state x 0 to 9; push u 1 to 2; world w 0 to 1; "
                + "x = x - u - w if x > u + w; x = 0");
        Checks.goal(wind, "x = 0");
        int[] want = {0, 1, 1, 2, 2, 3, 3, 4, 4, 5};
        for (int cell = 0; cell < 10; cell++) {
            due("ticks of " + cell, wind.ticks(cell), want[cell]);
        }
        SteeringHouse chain = Checks.house(CHAIN);
        Checks.goal(chain, "x = 20 and y = 20");
        for (int cell = 0; cell < 400; cell++) {
            due("ticks of " + cell, chain.ticks(cell), 399 - cell);
        }
        SteeringHouse uneven = Checks.house("state x 0 to 4; world w 0 to 1; x = 0 if x = 1; x = 1 if x = 2; "
                + "x = 2 if w = 1 and x = 3; x = 0 if x = 3");
        Checks.goal(uneven, "x = 0");
        due("the WORLD that takes most", uneven.ticks(3), 3);
        SteeringHouse zero = Checks.house("state x 0 to 2; x = 0 if x = 2; x = 1");
        Checks.goal(zero, "x = 1");
        due("through CELL 0", zero.ticks(2), 2);

        of("II", "(the least PUSH that does with least k is its LAW);");
        due("both do: the least", wind.law(1), 0);
        due("the second alone does with 1", wind.law(2), 1);
        due("both do with 2", wind.law(3), 0);
        due("the second alone does with 2", wind.law(4), 1);
        SteeringHouse nine = Checks.house("state x 0 to 2; push u 0 to 8; x = x + 1 if u > 6 and x < 2; x = 0");
        Checks.goal(nine, "x = 2");
        due("the least of the last two", nine.law(0), 7);

        of("II", "none else.");
        SteeringHouse never = Checks.house("state x 0 to 2; push u 0 to 1; world w 0 to 1; x = x + w - u if x = 1; "
                + "x = 1 if x = 2");
        Checks.goal(never, "x = 0");
        due("not by every WORLD", never.ticks(1), -2);
        due("nor behind it", never.ticks(2), -2);
        due("the GOAL", never.ticks(0), 0);
        SteeringHouse out = Checks.house("state x 0 to 2; world w 0 to 1; x = 9 if x = 1 and w = 1; x = 0");
        Checks.goal(out, "x = 0");
        due("OUT by one WORLD", out.ticks(1), -2);
        due("by none", out.ticks(2), 1);
        Checks.good(out, "x < 2");
        due("not GOOD", out.ticks(2), -2);
        SteeringHouse through = Checks.house("state x 0 to 2; x = x + 1 if x < 2");
        Checks.goal(through, "x = 2");
        due("through one between", through.ticks(0), 2);
        due("all but that one", Checks.good(through, "x * x - 2 * x > - 1"), 2);
        due("only through one that isn't GOOD", through.ticks(0), -2);
    }

    private static void best() {
        of("II", "BEST over a horizon h (0 .. 20): of a CELL what is paid at the worst, at least: LOST (1,000,000) "
                + "of one that isn't GOOD, whatever h is;");
        SteeringHouse house = Checks.house(LINE);
        Checks.cost(house, "1");
        Checks.good(house, "x > 0");
        for (int h : new int[] {0, 1, 2, 19, 20}) {
            due("not GOOD over " + h, house.best(0, h), LOST);
            due("GOOD over " + h, house.best(1, h), h);
        }

        of("II", "0 for h 0;");
        for (int cell = 1; cell < 5; cell++) {
            due("over 0", house.best(cell, 0), 0);
        }
        due("though it goes OUT then", Checks.house("state x 0 to 1; x = 9").best(0, 0), 0);

        of("II", "else the least over all PUSHES of: COST there and the most over WORLDS of BEST over h - 1 of where "
                + "it leads");
        SteeringHouse wind = Checks.house("state x 0 to 9; push u 0 to 1; world w 0 to 1; "
                + "x = x - u - w if x > u + w - 1; x = 0");
        Checks.cost(wind, "10 * x + 3 * u");
        due("over 1 without a push", wind.best(5, 1), 50);
        due("over 2 the push is worth it", wind.best(5, 2), 50 + 3 + 40);
        due("over 3", wind.best(5, 3), 50 + 3 + 40 + 3 + 30);
        due("of a world that takes least away", wind.best(1, 2), 10 + 3);

        of("II", "(LOST if that is OUT),");
        SteeringHouse out = Checks.house("state x 0 to 2; push u 0 to 1; world w 0 to 1; x = x + u + w");
        due("OUT by one WORLD of each PUSH", out.best(2, 1), LOST);
        due("not OUT by the first PUSH", out.best(1, 1), 0);
        due("OUT in two ticks", out.best(1, 2), LOST);
        Checks.good(out, "x < 2");
        due("to one that isn't GOOD", out.best(1, 1), LOST);

        of("II", "LOST at most;");
        Checks.cost(out, "999");
        for (int h = 1; h <= 20; h++) {
            due("no more than LOST over " + h, out.best(1, h), LOST);
        }
        SteeringHouse dear = Checks.house("state x 0 to 19; x = x + 1");
        Checks.cost(dear, "999 + 1");
        due("not yet LOST", dear.best(0, 19), 19000);
        due("OUT behind that", dear.best(0, 20), LOST);
        due("the most that is paid without it", bestStaying("999 + 1"), 20000);

        of("II", "the least PUSH of those with least is its LAW over h.");
        due("all are LOST: the least PUSH", out.bestLaw(1, 1), 0);
        due("one that isn't LOST", out.bestLaw(0, 1), 0);
        due("without a push over 1", wind.bestLaw(5, 1), 0);
        due("with it over 2", wind.bestLaw(5, 2), 1);
        SteeringHouse same = Checks.house("state x 0 to 9; push u 0 to 8; x = x");
        Checks.cost(same, "5 - u");
        due("the least of 5 .. 8", same.bestLaw(0, 1), 5);
        due("over 20, too", same.bestLaw(0, 20), 5);
        Checks.cost(same, "8 - u");
        due("the last alone", same.bestLaw(0, 1), 8);
    }

    private static int bestStaying(String cost) {
        SteeringHouse house = Checks.house("state x 0 to 0");
        Checks.cost(house, cost);
        return house.best(0, 20);
    }

    private static void worst() {
        of("II", "WORST: of a CELL over a horizon, the LAWS of BEST being followed (over h, h - 1, ..): the row of "
                + "WORLDS, each the least of those with the most BEST over what is left of where it leads (LOST if "
                + "that is OUT).");
        SteeringHouse house = Checks.house("state x 0 to 9; push u 0 to 1; world w 0 to 2; "
                + "x = x + w - 1 - u if x + w - 1 - u > - 1 and x + w - 1 - u < 10");
        Checks.cost(house, "x");
        due("up", worst(house, 5, 3, 0), 2);
        due("up again", worst(house, 5, 3, 1), 2);
        due("over 0 all are alike: the least", worst(house, 5, 3, 2), 0);
        due("over 1: the least", worst(house, 5, 1, 0), 0);
        due("over 20, the first", worst(house, 5, 20, 0), 2);
        due("over 20, the last", worst(house, 5, 20, 19), 0);
        SteeringHouse law = Checks.house("state x 0 to 3; push u 0 to 1; world w 0 to 1; x = 1 if x = 0 and u = 1; "
                + "x = 2 if x = 0; x = 3 if x = 1 and w = 1; x = 3 if x = 2 and w = 0; x = x if x < 3");
        Checks.cost(law, "100 * x * x - 4 * u");
        due("the LAW leads to 1", law.bestLaw(0, 3), 1);
        due("there by PUSH 1", worst(law, 0, 3, 0), 0);
        due("from 1 the second WORLD is worse", worst(law, 0, 3, 1), 1);
        SteeringHouse out = Checks.house("state x 0 to 3; world w 0 to 2; x = 9 if w = 1; x = 9 if w = 2; x = 3");
        due("of two that lead OUT the least", worst(out, 0, 1, 0), 1);
        Checks.good(out, "x < 3");
        due("OUT and not GOOD are alike", worst(out, 0, 1, 0), 0);
    }

    private static void margins() {
        of("II", "MARGIN of a CELL: how much (0, 1, 2) the SPANS of all worlds may be made wider at both ends so "
                + "that it is SAFE still;");
        int[] want = {0, 0, 1, 2, 2};
        for (int reach = 1; reach < 5; reach++) {
            SteeringHouse house = Checks.house("state x -9 to 9; push u -" + reach + " to " + reach
                    + "; world w -1 to 1; x = x + u + w");
            due("pushes of " + reach, house.margin(9), want[reach]);
        }
        SteeringHouse low = Checks.house("state x 0 to 9; world w 5 to 5; x = 99 if w = 3; x = 0");
        due("its lower end goes down by two", low.margin(0), 1);
        SteeringHouse lower = Checks.house("state x 0 to 9; world w 5 to 5; x = 99 if w < 3; x = 0");
        due("and by no more", lower.margin(0), 2);
        SteeringHouse high = Checks.house("state x 0 to 9; world w 5 to 5; x = 99 if w = 6; x = 0");
        due("its upper end goes up by one", high.margin(0), 0);
        SteeringHouse both = Checks.house("state x 0 to 9; world w 5 to 5; world d 0 to 0; x = 99 if w * d = 14; "
                + "x = 0");
        due("all worlds: 7 and 2", both.margin(0), 1);
        SteeringHouse nums = Checks.house("state x 0 to 9; world w 0 to 0; num k 0 to 1; x = 99 if k > 1; "
                + "x = 99 if k < 0; x = 99 if k * w = 2; x = 0");
        due("no nums, but each of theirs", nums.margin(0), 1);
        due("no world at all", Checks.house("state x 0 to 1; num k 0 to 1; x = k").margin(1), 2);
        SteeringHouse two = Checks.house("state x 0 to 9; world w 0 to 0; world d 0 to 0; x = 99 if w * d > 4; "
                + "x = 99 if d > 2; x = 99 if d < - 2; x = 99 if w > 2; x = 99 if w < - 2; x = 0");
        due("no world by more than two, beside another", two.margin(0), 2);
        SteeringHouse chain = Checks.house("state x 0 to 4; world w 0 to 0; x = 99 if x = 4 and w = 1; "
                + "x = x + 1 if x < 4 and w = 2; x = x + 1 if x < 4 and x > 1 and w = 0");
        due("into what goes with a wider world", chain.margin(4), 0);
        due("by the world as it is, into that", chain.margin(3), 0);
        due("and so on", chain.margin(2), 0);
        due("by one wider by two alone", chain.margin(1), 1);
        due("and so on", chain.margin(0), 1);
        SteeringHouse down = Checks.house("state x 0 to 4; world w 0 to 0; x = 99 if x = 0 and w = 1; "
                + "x = x - 1 if x > 0 and x < 3 and w = 0");
        int[] downs = {0, 0, 0, 2, 2};
        for (int cell = 0; cell < 5; cell++) {
            due("down to CELL 0, which goes with a wider world: " + cell, down.margin(cell), downs[cell]);
        }
        SteeringHouse most = Checks.house("state x 1 to 20; state y 1 to 20; push u -1 to 1; world w 0 to 0; "
                + "x = x + u + w; y = 1 if y = 20");
        for (int cell = 0; cell < 400; cell++) {
            due("of 400: " + cell, most.margin(cell), 1);
        }

        of("II", "-2 if it isn't SAFE at 0.");
        due("it goes OUT", Checks.house("state x 0 to 9; world w 0 to 0; x = x + 1").margin(0), -2);
        due("it isn't GOOD", margin("state x 0 to 9; world w 0 to 0", "x > 0", 0), -2);
        due("it is", margin("state x 0 to 9; world w 0 to 0", "x > 0", 1), 2);
    }

    private static int margin(String text, String good, int cell) {
        SteeringHouse house = Checks.house(text);
        Checks.good(house, good);
        return house.margin(cell);
    }

    private static void widest() {
        of("II", "(They may be wider so than I. lets them be.)");
        SteeringHouse span = Checks.house("state x 0 to 9; world w 20 to 20; x = 99 if w = 22; x = 0");
        due("22 is beyond what a SPAN may have", span.margin(0), 1);
        SteeringHouse below = Checks.house("state x 0 to 9; world w -20 to -20; x = 99 if w = - 22; x = 0");
        due("-22, too", below.margin(0), 1);
        SteeringHouse many = Checks.house("state x 0 to 9; world w -13 to 13; x = 99 if w = 15; x = 0");
        due("31 WORLDS", many.margin(0), 1);
        SteeringHouse most = Checks.house("state x 0 to 9; world w 0 to 0; world d 0 to 0; num k 0 to 8; "
                + "num m 0 to 2; x = 99 if w * d * k * m = 64; x = 0");
        due("675 WORLDS: the last", most.margin(0), 1);
        SteeringHouse kept = Checks.house("state x 0 to 9; world w 0 to 0; world d 0 to 0; num k 0 to 8; "
                + "num m 0 to 2; x = 99 if w * d * k * m = 65; x = 0");
        due("675 WORLDS: none", kept.margin(9), 2);
    }

    private static void safeCall() {
        of("15", "How many CELLS are SAFE;");
        SteeringHouse house = Checks.house(LINE);
        due("all", house.safe(), 5);
        Checks.good(house, "x = 4");
        due("one", house.safe(), 1);
        Checks.good(house, "x > 4");
        due("none", house.safe(), 0);
        due("trouble of none", house.trouble(), 0);

        of("15", "NONE (1).");
        SteeringHouse none = new SteeringHouse();
        Checks.refused("safe", none, none.safe(), 1);
    }

    private static void layerCall() {
        of("16", "LAYER of a CELL; 0 if it is SAFE, -2 if it isn't GOOD;");
        SteeringHouse house = Checks.house("state x 0 to 4; x = x + 1 if x > 0");
        due("SAFE", house.layer(0), 0);
        due("the last round", house.layer(1), 4);
        due("the first round", house.layer(4), 1);
        Checks.good(house, "x > 0");
        due("not GOOD, though it would stay", house.layer(0), -2);

        of("16", "NONE.");
        noneOf("layer", house, new SteeringHouse());
    }

    private static void noneOf(String call, SteeringHouse house, SteeringHouse none) {
        house.stays(0, 0, 0, 0);
        for (int cell : NO_CELLS) {
            due(call + " of " + cell, answer(call, house, cell), -1);
        }
        due(call + " without a THING", answer(call, none, 0), -1);
        due("no number is told, so TROUBLE stays", house.trouble(), 2);
        due("and without a THING", none.trouble(), 0);
    }

    private static int answer(String call, SteeringHouse house, int cell) {
        switch (call) {
            case "layer": return house.layer(cell);
            case "allowed": return house.allowed(cell);
            case "ticks": return house.ticks(cell);
            case "law": return house.law(cell);
            default: return house.margin(cell);
        }
    }

    private static void allowedCall() {
        of("17", "ALLOWED of a CELL as bits (0 if it isn't SAFE);");
        SteeringHouse house = Checks.house("state x 0 to 4; push u 0 to 2; push v 0 to 2; x = x + u * v");
        due("all nine", house.allowed(0), 511);
        due("1 * 1 is the last that may be", house.allowed(3), 31 + 64);
        due("no product", house.allowed(4), 1 + 2 + 4 + 8 + 64);
        due("not SAFE", Checks.house("state x 0 to 4; x = x + 1").allowed(0), 0);
        Checks.good(house, "x < 4");
        due("not GOOD", house.allowed(4), 0);
        due("one PUSH, without pushes", Checks.house("state x 0 to 0").allowed(0), 1);

        of("17", "NONE.");
        noneOf("allowed", house, new SteeringHouse());
    }

    private static void ticksCall() {
        of("18", "TICKS of a CELL; -2 if it has none;");
        SteeringHouse house = Checks.house(LINE);
        due("no GOAL", house.ticks(0), -2);
        Checks.goal(house, "x = 4");
        due("at it", house.ticks(4), 0);
        due("the farthest", house.ticks(0), 4);
        Checks.good(house, "x > 0");
        due("not GOOD", house.ticks(0), -2);

        of("18", "NONE.");
        noneOf("ticks", house, new SteeringHouse());
    }

    private static void lawCall() {
        of("19", "LAW of TICKS of a CELL (above 0): the PUSH; -2 if it has none;");
        SteeringHouse house = Checks.house(LINE);
        due("no GOAL", house.law(0), -2);
        Checks.goal(house, "x = 3");
        due("up", house.law(2), 2);
        due("TICKS of 0", house.law(3), -2);
        due("down, PUSH 0", house.law(4), 0);
        Checks.good(house, "x < 4");
        due("not GOOD", house.law(4), -2);

        of("19", "NONE.");
        noneOf("law", house, new SteeringHouse());
    }

    private static void bestCall() {
        of("20", "BEST of a CELL over a horizon.");
        SteeringHouse house = Checks.house(LINE);
        Checks.cost(house, "x + 1");
        due("over 0", house.best(4, 0), 0);
        due("over 1", house.best(4, 1), 5);
        due("over 20", house.best(4, 20), 5 + 4 + 3 + 2 + 16);
        due("over 3, asked after 20", house.best(4, 3), 12);
        due("trouble", house.trouble(), 0);
        due("the last of 400 over 20", Checks.house("state x 1 to 20; state y 1 to 20").best(399, 20), 0);

        of("20", "NONE: 1; 2.");
        for (int cell : NO_CELLS) {
            Checks.refused("best of " + cell, house, house.best(cell, 0), 1);
            Checks.refused("best of " + cell + " over -1", house, house.best(cell, -1), 1);
        }
        for (int h : new int[] {-1, 21, LEAST, MOST}) {
            Checks.refused("best over " + h, house, house.best(0, h), 2);
        }
        SteeringHouse none = new SteeringHouse();
        Checks.refused("best without a THING", none, none.best(0, 0), 1);
    }

    private static void bestLawCall() {
        of("21", "LAW of BEST of a CELL over a horizon (1 ..); -2 if the CELL isn't GOOD.");
        SteeringHouse house = Checks.house(LINE);
        Checks.cost(house, "x + 1");
        due("over 1", house.bestLaw(4, 1), 0);
        due("over 1, where the least leads OUT", house.bestLaw(0, 1), 1);
        due("over 20", house.bestLaw(4, 20), 0);
        Checks.good(house, "x > 0");
        due("not GOOD over 1", house.bestLaw(0, 1), -2);
        due("not GOOD over 20", house.bestLaw(0, 20), -2);
        due("trouble", house.trouble(), 0);

        of("21", "NONE: 1; 2.");
        for (int cell : NO_CELLS) {
            Checks.refused("bestLaw of " + cell, house, house.bestLaw(cell, 1), 1);
            Checks.refused("bestLaw of " + cell + " over 0", house, house.bestLaw(cell, 0), 1);
        }
        for (int h : new int[] {0, -1, 21, LEAST, MOST}) {
            Checks.refused("bestLaw over " + h, house, house.bestLaw(1, h), 2);
            Checks.refused("bestLaw of one that isn't GOOD over " + h, house, house.bestLaw(0, h), 2);
        }
        SteeringHouse none = new SteeringHouse();
        Checks.refused("bestLaw without a THING", none, none.bestLaw(0, 1), 1);
    }

    private static void worstCall() {
        of("22", "The i-th WORLD (0 .. horizon - 1) of WORST of a CELL;");
        SteeringHouse house = Checks.house("state x 0 to 9; world w 0 to 1; x = x + w if x < 9");
        Checks.cost(house, "x");
        for (int i = 0; i < 20; i++) {
            due("world " + i + " over 20", worst(house, 0, 20, i), i < 9 ? 1 : 0);
        }
        due("the only one over 1", worst(house, 0, 1, 0), 0);

        of("22", "-2 if it was OUT or at a CELL that isn't GOOD ahead of that.");
        SteeringHouse out = Checks.house("state x 0 to 2; world w 0 to 1; x = 9 if w = 1 and x = 2; "
                + "x = 2 if w = 1 and x = 1; x = 0");
        due("the one that leads OUT", worst(out, 2, 2, 0), 1);
        due("OUT behind that", worst(out, 2, 2, 1), -2);
        due("and on", worst(out, 2, 20, 19), -2);
        due("OUT at the last: not ahead of it", worst(out, 1, 2, 1), 1);
        Checks.good(out, "x < 2");
        due("not GOOD at first", worst(out, 2, 1, 0), -2);
        due("not GOOD at first, later", worst(out, 2, 20, 19), -2);
        due("into one that isn't GOOD", worst(out, 1, 2, 0), 1);
        due("behind that", worst(out, 1, 2, 1), -2);

        of("22", "NoSuchElementException if there is none such (no CELL, horizon 1 .. 20, i).");
        house.stays(0, 0, 0, 0);
        for (int cell : new int[] {-1, 10, 400, LEAST, MOST}) {
            due("CELL " + cell, worst(house, cell, 1, 0), THROWN);
        }
        for (int h : new int[] {0, -1, 21, LEAST, MOST}) {
            due("horizon " + h, worst(house, 0, h, 0), THROWN);
        }
        for (int i : new int[] {-1, 2, LEAST, MOST}) {
            due("i " + i, worst(house, 0, 2, i), THROWN);
        }
        due("i 1 over 1", worst(house, 0, 1, 1), THROWN);
        due("i 19 over 20", worst(house, 0, 20, 19), 0);
        due("i 20 over 20", worst(house, 0, 20, 20), THROWN);
        due("i 20 over 21", worst(house, 0, 21, 20), THROWN);
        due("of one that isn't GOOD", worst(out, 2, 1, 1), THROWN);
        due("TROUBLE stays", house.trouble(), 2);
        due("without a THING", worst(new SteeringHouse(), 0, 1, 0), THROWN);
    }

    private static void marginCall() {
        of("23", "MARGIN of a CELL;");
        SteeringHouse house = Checks.house("state x 0 to 4; push u -1 to 1; world w 0 to 0; x = x + u + w");
        due("one", house.margin(2), 1);
        Checks.good(house, "x < 3");
        due("not GOOD", house.margin(3), -2);
        due("still one", house.margin(0), 1);
        Checks.good(house, "x = 0");
        due("now by nothing", house.margin(0), 0);
        due("without a THING, like no CELL", new SteeringHouse().margin(0), -1);

        of("23", "NONE.");
        noneOf("margin", house, new SteeringHouse());
    }
}
