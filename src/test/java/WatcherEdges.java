/** Terms IV and promises 29 to 38, sentence by sentence, at their edges: ticks, sights, faults, nums. */
final class WatcherEdges {
    private static final int LEAST = Checks.LEAST;
    private static final int MOST = Checks.MOST;
    private static final String LINE = "state x 0 to 4; push u -1 to 1; sight s = x; x = x + u";
    private static final String NUMS = "state x 0 to 4; push u 0 to 1; num k 1 to 2; sight s = x; x = x + k * u";
    private static final String BOTH = "state x 0 to 1; push u 0 to 1; push v 0 to 1; sight s = u; sight r = v";

    private WatcherEdges() {
    }

    static void all() {
        first();
        canBeThere();
        worldsAndNums();
        tellings();
        guesses();
        pushFaults();
        sightFaults();
        firstToLast();
        named();
        asKnown();
        fits();
        probes();
        tickCall();
        toldCall();
        canCall();
        canBeCall();
        guessCall();
        namedCall();
        knownCall();
        fitCall();
        probeCall();
        anewCall();
    }

    private static void of(String part, String words) {
        Checks.of(part, words);
    }

    private static void due(String what, long got, long want) {
        Checks.due(what, got, want);
    }

    private static void due(String what, boolean got, boolean want) {
        Checks.due(what, got, want);
    }

    private static void first() {
        of("IV", "WATCHER: from the first CELL, which isn't known (any GOOD one),");
        SteeringHouse house = Checks.house(LINE);
        due("any", house.can(0), 5);
        Checks.good(house, "x = 4");
        due("the only GOOD one", house.can(0), 1);
        due("which is the last", house.canBe(4), 1);
        Checks.good(house, "x > 4");
        due("none is GOOD", house.can(0), 0);
        due("by no fault", house.named(), -3);
        due("400", Checks.house("state x 1 to 20; state y 1 to 20").can(0), 400);

        of("IV", "by ticks: each a PUSH that is told.");
        house = Checks.house(LINE);
        house.told(0, 0, 2);
        house.tick(2);
        due("PUSH 2", house.canBe(3), 1);
        house.tick(0);
        due("PUSH 0", house.canBe(2), 1);
        due("nowhere else", house.can(0), 1);
        Checks.good(house, "x = 2");
        due("on the way it need not be GOOD", house.can(0), 1);
    }

    private static void canBeThere() {
        of("IV", "CAN BE: CELLS in which it may be now, by all PUSHES and sights told (it never went OUT),");
        SteeringHouse house = Checks.house(LINE);
        for (int ticks = 1; ticks <= 4; ticks++) {
            house.tick(2);
            due("without those that went OUT", house.can(0), 5 - ticks);
        }
        due("only the last CELL", house.canBe(4), 1);
        due("told that it is there", house.told(4, 0, 4), true);
        due("the same", house.can(0), 1);
        house.tick(2);
        due("all went OUT", house.can(0), 0);
        house.tick(0);
        due("and don't come back", house.can(0), 0);
        house.anew();
        house.told(0, 0, 3);
        due("all sights: one told", house.can(0), 1);
        house.tick(1);
        house.told(1, 0, 2);
        due("two that don't go together", house.can(0), 0);
        SteeringHouse two = Checks.house("state x 0 to 3; state y 0 to 3; sight s = x; sight r = y");
        two.told(0, 0, 1);
        due("one of two sights", two.can(0), 4);
        two.told(0, 1, 3);
        due("both", two.can(0), 1);
        due("there", two.canBe(7), 1);
    }

    private static void worldsAndNums() {
        of("IV", "worlds any each tick,");
        SteeringHouse wind = Checks.house("state x 0 to 9; world w 1 to 2; sight s = x; x = x + w");
        wind.told(0, 0, 0);
        int[] want = {1, 2, 3, 4, 5, 5, 4};
        for (int ticks = 1; ticks <= 6; ticks++) {
            wind.tick(0);
            due("from k to 2 k after " + ticks, wind.can(0), want[ticks]);
        }
        SteeringHouse last = Checks.house("state x 0 to 20; world w -6 to 20; x = w + 6");
        last.tick(0);
        due("21 of 27 WORLDS don't lead OUT", last.can(0), 21);

        of("IV", "nums the same in all ticks.");
        SteeringHouse nums = Checks.house("state x 0 to 9; num k 1 to 2; sight s = x; x = x + k");
        nums.told(0, 0, 0);
        for (int ticks = 1; ticks <= 4; ticks++) {
            nums.tick(0);
            due("k or 2 k after " + ticks, nums.can(0), 2);
            due("k", nums.canBe(ticks), 1);
            due("2 k", nums.canBe(2 * ticks), 1);
        }
        nums.tick(0);
        due("2 k is OUT", nums.can(0), 1);
        SteeringHouse most = Checks.house("state x -6 to 20; num k -6 to 20; x = k");
        most.tick(0);
        due("27 of them", most.can(0), 27);
        most.tick(0);
        due("each keeps its own", most.fit(), 27);
    }

    private static void tellings() {
        of("IV", "A sight of a tick may be told at once or later, once; none may be.");
        SteeringHouse house = Checks.house(LINE);
        house.tick(1);
        due("at once", house.told(1, 0, 2), true);
        due("it is known", house.can(0), 1);
        house.tick(1);
        house.tick(2);
        due("later", house.told(2, 0, 2), true);
        due("twice", house.told(2, 0, 2), false);
        due("trouble of twice", house.trouble(), 5);
        due("nor another value", house.told(2, 0, 3), false);
        due("which is not taken", house.can(0), 1);
        due("of the first CELL, late", house.told(0, 0, 2), true);
        due("once", house.told(0, 0, 2), false);
        due("none of tick 3", house.can(0), 1);
        SteeringHouse none = Checks.house(LINE);
        for (int i = 0; i < 30; i++) {
            none.tick(1);
        }
        due("none at all", none.can(0), 5);
    }

    private static void guesses() {
        of("IV", "GUESS of a state: its least and most.");
        SteeringHouse house = Checks.house("state x -20 to 0; state y 1 to 10; sight s = x + y; sight r = x * y");
        due("least", house.guess(0, false), -20);
        due("most", house.guess(0, true), 0);
        due("least of the second", house.guess(1, false), 1);
        due("most of the second", house.guess(1, true), 10);
        house.told(0, 0, 9);
        due("two are left, least", house.guess(0, false), -1);
        due("two are left, most", house.guess(0, true), 0);
        due("two are left, least", house.guess(1, false), 9);
        due("two are left, most", house.guess(1, true), 10);
        house.told(0, 1, -10);
        due("one is left", house.guess(0, false), -1);
        due("one is left", house.guess(0, true), -1);
    }

    private static void pushFaults() {
        of("IV", "FAULTY: fault 0 is none; then (1 ..) push i fails (it is 0 whatever is told,");
        SteeringHouse house = Checks.house("state x 0 to 9; push u 0 to 2; push v 0 to 1; sight s = x; "
                + "x = x + 3 * v + u");
        house.told(0, 0, 0);
        house.tick(5);
        due("none fails", house.can(0), 1);
        due("3 + 2", house.canBe(5), 1);
        house.told(1, 0, 4);
        int[] want = {0, 0, 0, 0};
        for (int fault = 0; fault < 4; fault++) {
            due("4 by fault " + fault, house.can(fault), want[fault]);
        }
        String[] told = {"5", "3", "2"};
        for (int fault = 0; fault < 3; fault++) {
            house.anew();
            house.told(0, 0, 0);
            house.tick(5);
            house.told(1, 0, Integer.parseInt(told[fault]));
            due(told[fault] + " by fault " + fault, house.can(fault), 1);
            due("that is the only one", house.named(), fault);
        }

        of("IV", "or the end of its SPAN that is nearest to 0);");
        String[] spans = {"0 to 4", "1 to 4", "-4 to -1", "-4 to 0", "-2 to 2", "3 to 3"};
        int[] failing = {0, 1, -1, 0, 0, 3};
        for (int i = 0; i < spans.length; i++) {
            SteeringHouse span = Checks.house("state x -9 to 9; push u " + spans[i] + "; sight s = x + 9; x = u");
            span.tick(0);
            span.told(1, 0, failing[i] + 9);
            due("SPAN " + spans[i], span.can(1), 1);
            span.anew();
            span.tick(span.count(6) - 1);
            due("whatever is told", span.told(1, 0, failing[i] + 9), true);
            due("SPAN " + spans[i], span.can(1), 1);
        }
        SteeringHouse two = Checks.house("state x 0 to 9; push u 2 to 4; push v 3 to 5; world w 0 to 1; sight s = x; "
                + "x = u + v - w");
        two.tick(8);
        two.told(1, 0, 9);
        due("4 + 5, or less the world", two.named(), 0);
        two.anew();
        two.tick(8);
        two.told(1, 0, 6);
        due("2 + 5 - 1, or 4 + 3 - 1", two.named(), -2);
        two.tick(7);
        two.told(2, 0, 6);
        due("2 + 4, or 4 + 3 - 1", two.can(1) * 10 + two.can(2), 11);
        SteeringHouse seen = Checks.house("state x 0 to 1; push u 1 to 3; sight s = u");
        seen.tick(2);
        seen.told(1, 0, 1);
        due("it is seen as it is", seen.named(), 1);
    }

    private static void sightFaults() {
        of("IV", "then sight j fails (it tells 0, whatever is there).");
        SteeringHouse house = Checks.house("state x 1 to 4; push u 0 to 1; sight s = x; sight r = x");
        house.told(0, 0, 0);
        due("by none", house.can(0), 0);
        due("by the push", house.can(1), 0);
        due("by sight 1, whatever is there", house.can(2), 4);
        due("by sight 2", house.can(3), 0);
        house.told(0, 1, 4);
        due("the other one tells", house.can(2), 1);
        house.anew();
        house.told(0, 1, 0);
        due("by sight 2", house.can(3), 4);
        due("by sight 1", house.can(2), 0);
        house.anew();
        house.told(0, 0, 1);
        due("a failing one tells nothing else", house.can(2), 0);
        due("told 0 where 0 is", Checks.house(LINE).told(0, 0, 0), true);
    }

    private static void firstToLast() {
        of("IV", "From the first tick to the last.");
        SteeringHouse house = Checks.house("state x 0 to 1; push u 0 to 1; sight s = u + 1");
        for (int tick = 1; tick <= 30; tick++) {
            house.tick(1);
        }
        house.told(1, 0, 1);
        due("the push fails at the first", house.named(), 1);
        house.told(30, 0, 1);
        due("and at the last", house.named(), 1);
        house.told(15, 0, 2);
        due("and between", house.named(), -3);
        house.anew();
        for (int tick = 1; tick <= 30; tick++) {
            house.tick(1);
        }
        house.told(0, 0, 0);
        due("the sight fails of the first CELL", house.named(), 2);
        house.told(30, 0, 0);
        due("and at the last", house.named(), 2);
        house.told(15, 0, 2);
        due("and between", house.named(), -3);
    }

    private static void named() {
        of("IV", "NAMED: the only fault by which there are CELLS in which it can be; "
                + "-2 if more are left, -3 if none is.");
        SteeringHouse house = Checks.house(BOTH);
        due("all five are left", house.named(), -2);
        house.tick(3);
        house.told(1, 0, 1);
        due("three are left", house.named(), -2);
        house.told(1, 1, 1);
        due("none fails", house.named(), 0);
        int[][] told = {{0, 1}, {1, 0}};
        for (int[] each : told) {
            house.anew();
            house.tick(3);
            house.told(1, 0, each[0]);
            house.told(1, 1, each[1]);
            due("a push or its sight fails", house.named(), -2);
            due("that push", house.can(each[0] == 0 ? 1 : 2), 2);
            due("that sight", house.can(each[0] == 0 ? 3 : 4), 2);
        }
        house.anew();
        house.tick(3);
        house.told(1, 0, 0);
        house.told(1, 1, 0);
        due("both are more than one", house.named(), -3);
        SteeringHouse last = Checks.house(BOTH.replace("sight r = v", "sight r = v + 1"));
        last.tick(3);
        last.told(1, 0, 1);
        last.told(1, 1, 0);
        due("the last of all faults", last.named(), 4);
    }

    private static void asKnown() {
        of("IV", "AS KNOWN at a tick: by what was told by then (sights of later told ticks left out).");
        SteeringHouse house = Checks.house(LINE);
        house.told(0, 0, 2);
        house.tick(1);
        house.tick(1);
        house.told(1, 0, 3);
        house.tick(1);
        house.told(3, 0, 2);
        due("told at 0", house.known(0), 1);
        due("of 1, told at 2", house.known(1), 1);
        due("known at 2", house.known(2), 0);
        due("at 3", house.known(3), 0);
        house.anew();
        house.tick(2);
        due("by the PUSHES till then", house.known(0), 5);
        due("one went OUT", house.known(1), 4);
        house.tick(2);
        due("not by later ones", house.known(1), 4);
        house.told(2, 0, 4);
        due("nor by later sights", house.known(1), 4);
        due("by those of then", house.known(2), 1);
        house.told(0, 0, 1);
        due("a wrong one of the first CELL, told now", house.known(0), 5);
        due("counts now", house.known(2), 0);
        due("as it does by all", house.can(0), 0);
        SteeringHouse five = Checks.house(BOTH);
        five.tick(3);
        five.told(1, 1, 0);
        due("by the last fault", five.can(4), 2);
        five.told(0, 1, 1);
        due("of a sight told late", five.known(0), 2);
        due("by the last fault none", five.can(4), 0);
        due("of a sight told late", five.known(1), 0);
        due("and none by the last fault", five.can(4), 0);
    }

    private static void fits() {
        of("IV", "FIT: how many values of nums together (all in their SPANS) can be, fault 0.");
        SteeringHouse house = Checks.house("state x 0 to 9; num k -1 to 1; num m 0 to 8; sight s = x; sight r = k; "
                + "x = k * m + 1");
        due("all 27 together", house.fit(), 27);
        house.tick(0);
        due("those that go OUT can't be", house.fit(), 9 + 9 + 2);
        house.told(1, 0, 1);
        due("0 times any, or any times 0", house.fit(), 9 + 2);
        house.told(0, 1, -1);
        due("one", house.fit(), 1);
        SteeringHouse fails = Checks.house("state x 1 to 2; num k 1 to 2; sight s = k");
        fails.told(0, 0, 0);
        due("none, fault 0", fails.fit(), 0);
        due("though by another there are CELLS", fails.can(1), 2);
        due("no nums: one", Checks.house("state x 0 to 1").fit(), 1);
        SteeringHouse none = Checks.house("state x 0 to 1; num k 0 to 1");
        Checks.good(none, "x > 1");
        due("no CELL: none", none.fit(), 0);
    }

    private static void probes() {
        of("IV", "PROBE of a CELL: the ALLOWED PUSH with the most different NEXTS by those values of nums that can "
                + "be (FIT),");
        String text = "state x 0 to 9; push u 0 to 2; num k 1 to 3; sight s = k; x = x + k * u if x < 2; "
                + "x = x - k * u if x > 7; x = 99 if u > 0 and x = 5; x = x + k if u = 1 and x = 3 and k < 3";
        SteeringHouse house = Checks.house(text);
        due("three by PUSH 1", house.probe(0), 1);
        due("none that isn't ALLOWED", house.probe(5), 0);
        due("one by each", house.probe(4), 0);
        due("PUSH 1", house.probe(3), 1);
        house.told(0, 0, 3);
        due("one num fits: one NEXT by each", house.probe(0), 0);
        SteeringHouse some = Checks.house("state x 0 to 9; push u 0 to 1; num k 1 to 3; sight s = k * k - 3 * k; "
                + "x = 5 if k < 3 and u = 0; x = 6 if u = 0; x = k");
        due("two by PUSH 0, three by PUSH 1", some.probe(0), 1);
        some.told(0, 0, -2);
        due("1 and 2 fit", some.fit(), 2);
        due("one by PUSH 0, two by PUSH 1", some.probe(0), 1);
        some.anew();
        some.told(0, 0, 0);
        due("3 alone fits", some.probe(0), 0);
        SteeringHouse alike = Checks.house("state x 0 to 9; push u 0 to 1; num k 1 to 3; x = 5 if k > 1 and u = 0; "
                + "x = 6 if u = 0; x = 7 if k < 2; x = 8 if k = 2; x = 9");
        due("the last two alike by PUSH 0, three by PUSH 1", alike.probe(0), 1);
        SteeringHouse ends = Checks.house("state x 0 to 9; push u 0 to 1; num k 1 to 3; sight s = k * k - 4 * k; "
                + "x = 5 if k < 3 and u = 0; x = 6 if u = 0; x = k");
        due("all three fit: three by PUSH 1", ends.probe(0), 1);
        ends.told(0, 0, -3);
        due("1 and 3 fit: two by each", ends.probe(0), 0);
        some.anew();
        some.told(0, 0, 7);
        due("none fits: the least that is ALLOWED", some.probe(0), 0);

        of("IV", "worlds at their least (of as many the least PUSH).");
        SteeringHouse least = Checks.house("state x 0 to 9; push u 0 to 2; world w 0 to 1; num k 1 to 2; "
                + "x = k * w if u = 0; x = k");
        due("PUSH 0 tells only by the other world; of 1 and 2 the least", least.probe(0), 1);
        SteeringHouse first = Checks.house("state x 0 to 9; push u 0 to 2; world w -1 to 0; num k 1 to 2; "
                + "x = 5 + k * w if u = 0; x = k");
        due("at its least it tells", first.probe(0), 0);
        SteeringHouse notFirst = Checks.house("state x 0 to 2; push u 0 to 1; x = x + 1 - u if x = 2");
        due("the least that is ALLOWED", notFirst.probe(2), 1);
    }

    private static void tickCall() {
        of("29", "A tick with a PUSH: the tick's number (1 ..).");
        SteeringHouse house = Checks.house("state x 0 to 1; push u 0 to 2; push v 0 to 2");
        due("the first", house.tick(0), 1);
        due("the last PUSH", house.tick(8), 2);
        due("without pushes PUSH 0", Checks.house("state x 0 to 1").tick(0), 1);
        for (int tick = 3; tick <= 30; tick++) {
            due("tick " + tick, house.tick(4), tick);
        }
        due("trouble", house.trouble(), 0);

        of("29", "NONE: 1; 3 (30 ticks).");
        for (int push : new int[] {-1, 9, LEAST, MOST}) {
            Checks.refused("PUSH " + push, house, house.tick(push), 1);
        }
        Checks.refused("tick 31", house, house.tick(0), 3);
        Checks.refused("tick 31 again", house, house.tick(8), 3);
        due("ticks", house.count(12), 30);
        house.anew();
        due("room again", house.tick(0), 1);
        SteeringHouse none = new SteeringHouse();
        Checks.refused("without a THING", none, none.tick(0), 1);
        SteeringHouse still = Checks.house("state x 0 to 1");
        Checks.refused("PUSH 1 without pushes", still, still.tick(1), 1);
    }

    private static void toldCall() {
        of("30", "A sight of a tick (0: of the first CELL; up to the latest) is told now: true;");
        SteeringHouse house = Checks.house(BOTH);
        due("of the first CELL", house.told(0, 0, 0), true);
        due("the second sight", house.told(0, 1, 0), true);
        for (int tick = 1; tick <= 30; tick++) {
            house.tick(0);
            due("of the latest", house.told(tick, 0, 0), true);
        }
        for (int tick = 30; tick >= 1; tick--) {
            due("later", house.told(tick, 1, 0), true);
        }
        due("trouble", house.trouble(), 0);
        due("all sights of all ticks", house.can(0), 2);
        house.anew();
        due("any value, the least", house.told(0, 0, LEAST), true);
        due("any value, the most", house.told(0, 1, MOST), true);
        due("no CELL has them", house.can(0), 0);

        of("30", "false: 1; 5 (told already).");
        for (int tick : new int[] {-1, 1, 30, 31, LEAST, MOST}) {
            Checks.refused("tick " + tick, house, house.told(tick, 0, 0), 1);
        }
        for (int sight : new int[] {-1, 2, LEAST, MOST}) {
            Checks.refused("sight " + sight, house, house.told(0, sight, 0), 1);
        }
        Checks.refused("told already", house, house.told(0, 0, 0), 5);
        Checks.refused("told already", house, house.told(0, 1, MOST), 5);
        SteeringHouse blind = Checks.house("state x 0 to 1");
        Checks.refused("without sights", blind, blind.told(0, 0, 0), 1);
        SteeringHouse none = new SteeringHouse();
        Checks.refused("without a THING", none, none.told(0, 0, 0), 1);
    }

    private static void canCall() {
        of("31", "How many CELLS it CAN BE in, by a fault;");
        SteeringHouse house = Checks.house(BOTH);
        for (int fault = 0; fault <= 4; fault++) {
            due("fault " + fault, house.can(fault), 2);
        }
        due("trouble", house.trouble(), 0);
        due("only fault 0", Checks.house("state x 0 to 1").can(0), 2);
        SteeringHouse full = Checks.house("state x 0 to 20; push u 0 to 1; push v 0 to 1; sight s = x; sight r = x; "
                + "x = x + u + v");
        for (int tick = 1; tick <= 30; tick++) {
            full.tick(tick < 11 ? 3 : 0);
        }
        for (int fault = 0; fault < 10; fault++) {
            due("asked twice", full.can(fault % 5), fault % 5 == 1 || fault % 5 == 2 ? 11 : 1);
        }
        for (int round = 0; round < 3; round++) {
            due("20 by none", full.can(0), 1);
            due("10 to 20 by push 1, till 20 is told", full.can(1), round == 0 ? 11 : 1);
            due("10 to 20 by push 2, till 20 is told", full.can(2), round == 0 ? 11 : 1);
            due("20 by sight 1, till that isn't 0", full.can(3), round == 0 ? 1 : 0);
            due("20 by sight 2", full.can(4), 1);
            due("20 by none", full.canBe(20), 1);
            due("known", full.known(29 + round % 2), 1);
            full.told(30 - round, 0, 20);
        }

        of("31", "NONE (1).");
        for (int fault : new int[] {-1, 5, LEAST, MOST}) {
            Checks.refused("fault " + fault, house, house.can(fault), 1);
        }
        SteeringHouse less = Checks.house("state x 0 to 1");
        Checks.refused("fault 1 of nothing that can fail", less, less.can(1), 1);
        SteeringHouse none = new SteeringHouse();
        Checks.refused("without a THING", none, none.can(0), 1);
    }

    private static void canBeCall() {
        of("32", "Whether it CAN BE in a CELL by fault 0: 1, 0;");
        SteeringHouse house = Checks.house(LINE);
        due("the first", house.canBe(0), 1);
        due("the last", house.canBe(4), 1);
        house.told(0, 0, 4);
        due("the first", house.canBe(0), 0);
        due("the last", house.canBe(4), 1);
        house.tick(1);
        house.told(1, 0, 0);
        due("not by a failing sight", house.canBe(4), 0);

        of("32", "NONE.");
        house.stays(0, 0, 0, 0);
        for (int cell : new int[] {-1, 5, 400, LEAST, MOST}) {
            due("CELL " + cell, house.canBe(cell), -1);
        }
        due("TROUBLE stays", house.trouble(), 2);
        due("without a THING", new SteeringHouse().canBe(0), -1);
    }

    private static void guessCall() {
        of("33", "GUESS of a state: its least (or most); -2^31 if there is none, for no such one.");
        SteeringHouse house = Checks.house(LINE);
        due("least", house.guess(0, false), 0);
        due("most", house.guess(0, true), 4);
        house.stays(0, 0, 0, 0);
        for (int state : new int[] {-1, 1, 2, 3, LEAST, MOST}) {
            due("state " + state, house.guess(state, false), Checks.NO_VALUE);
            due("state " + state, house.guess(state, true), Checks.NO_VALUE);
        }
        due("TROUBLE stays", house.trouble(), 2);
        house.told(0, 0, 9);
        due("there is none, least", house.guess(0, false), Checks.NO_VALUE);
        due("there is none, most", house.guess(0, true), Checks.NO_VALUE);
        due("without a THING", new SteeringHouse().guess(0, true), Checks.NO_VALUE);
    }

    private static void namedCall() {
        of("34", "NAMED; NONE (1).");
        SteeringHouse house = Checks.house("state x 0 to 1");
        due("nothing can fail", house.named(), 0);
        due("trouble", house.trouble(), 0);
        Checks.good(house, "x > 1");
        due("none", house.named(), -3);
        due("trouble of none", house.trouble(), 0);
        due("more", Checks.house(LINE).named(), -2);
        SteeringHouse none = new SteeringHouse();
        Checks.refused("without a THING", none, none.named(), 1);
    }

    private static void knownCall() {
        of("35", "How many CELLS it could be in at a tick AS KNOWN then, fault 0; NONE.");
        SteeringHouse house = Checks.house("state x 1 to 3; push u 0 to 1; sight s = x");
        due("tick 0", house.known(0), 3);
        for (int tick = 1; tick <= 30; tick++) {
            house.tick(0);
            due("the latest", house.known(tick), 3);
        }
        house.told(30, 0, 0);
        due("by a failing sight it could, by none not", house.known(30), 0);
        due("before", house.known(29), 3);
        house.stays(0, 0, 0, 0);
        for (int tick : new int[] {-1, 31, LEAST, MOST}) {
            due("tick " + tick, house.known(tick), -1);
        }
        house.anew();
        due("tick 1, anew", house.known(1), -1);
        due("tick 0, anew", house.known(0), 3);
        due("without a THING", new SteeringHouse().known(0), -1);
        house.stays(0, 0, 0, 0);
        house.known(-1);
        house.known(0);
        due("TROUBLE stays", house.trouble(), 2);
    }

    private static void fitCall() {
        of("36", "FIT; NONE (1).");
        SteeringHouse house = Checks.house(NUMS);
        due("both", house.fit(), 2);
        house.told(0, 0, 9);
        due("none", house.fit(), 0);
        due("trouble of none", house.trouble(), 0);
        due("27", Checks.house("state x 0 to 1; num k -6 to 20").fit(), 27);
        SteeringHouse none = new SteeringHouse();
        Checks.refused("without a THING", none, none.fit(), 1);
    }

    private static void probeCall() {
        of("37", "PROBE of a CELL: the PUSH.");
        SteeringHouse house = Checks.house(NUMS);
        due("of the first", house.probe(0), 1);
        due("of the last", house.probe(4), 0);
        due("trouble", house.trouble(), 0);
        due("without pushes", Checks.house("state x 0 to 1").probe(1), 0);

        of("37", "NONE: 1; 5.");
        for (int cell : new int[] {-1, 5, LEAST, MOST}) {
            Checks.refused("CELL " + cell, house, house.probe(cell), 1);
        }
        Checks.good(house, "x < 4");
        Checks.refused("not GOOD", house, house.probe(4), 5);
        SteeringHouse drift = Checks.house("state x 0 to 4; x = x + 1");
        Checks.refused("not SAFE", drift, drift.probe(0), 5);
        SteeringHouse none = new SteeringHouse();
        Checks.refused("without a THING", none, none.probe(0), 1);
    }

    private static void anewCall() {
        of("38", "The WATCHER begins anew: how many ticks there were;");
        SteeringHouse house = Checks.house(NUMS);
        due("none", house.anew(), 0);
        house.told(0, 0, 0);
        for (int tick = 1; tick <= 30; tick++) {
            house.tick(0);
        }
        house.told(30, 0, 0);
        due("at 0", house.guess(0, true) * 10 + house.fit(), 2);
        due("30", house.anew(), 30);
        house.told(0, 0, 3);
        due("the least is not of the ticks that were", house.guess(0, false), 3);
        house.tick(1);
        house.told(1, 0, 4);
        due("nor are the nums", house.fit(), 1);
        due("one", house.anew(), 1);
        due("none now", house.anew(), 0);
        due("trouble", house.trouble(), 0);
        due("ticks", house.count(12), 0);
        due("any CELL", house.can(0), 5);
        due("the least", house.guess(0, false), 0);
        due("the most", house.guess(0, true), 4);
        due("nums", house.fit(), 2);
        due("nothing is told", house.told(0, 0, 1), true);
        due("the least", house.guess(0, false), 1);
        due("the most", house.guess(0, true), 1);
        house.tick(1);
        due("nor of tick 1", house.told(1, 0, 2), true);
        due("only what is told now counts", house.fit(), 1);
        Checks.good(house, "x > 0");
        Checks.goal(house, "x = 1");
        house.claim(1, 0);
        house.anew();
        due("GOOD stays", house.count(9), 4);
        due("GOAL stays", house.ticks(1), 0);
        due("claims stay", house.count(13), 1);

        of("38", "NONE (1).");
        SteeringHouse none = new SteeringHouse();
        Checks.refused("without a THING", none, none.anew(), 1);
    }
}
