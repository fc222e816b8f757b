/** Promises 1 to 14: the tape, texts and their faults, cells, pushes, where a cell leads, sights. */
public final class ThingTest {
    private static final String PLAIN = "state x 0 to 4; push u -1 to 1; x = x + u";

    public static void main(String[] args) {
        newObject();
        tape();
        things();
        formFaults();
        nameFaults();
        spanFaults();
        manyFaults();
        firstFault();
        wishes();
        wishFaults();
        counts();
        cellsAndPushes();
        nexts();
        sums();
        sights();
        Checks.end("ThingTest");
    }

    private static void due(String what, long got, long want) {
        Checks.due(what, got, want);
    }

    private static void newObject() {
        SteeringHouse house = new SteeringHouse();
        due("NONE", SteeringHouse.NONE, -1);
        for (int what = -1; what < 16; what++) {
            due("new: count " + what, house.count(what), what == 11 ? 0 : -1);
        }
        due("new: trouble", house.trouble(), 0);
        due("new: fault", house.fault(), 0);
        due("new: where", house.where(), -1);
        due("new: cell", house.cell(0, 0, 0), -1);
        due("new: state", house.state(0, 0), Checks.NO_VALUE);
        due("new: push", house.push(0, 0), Checks.NO_VALUE);
        due("new: sight", house.sight(0, 0, 0, 0), Checks.NO_VALUE);
        due("new: next", house.next(0, 0, 0), -1);
        due("new: trouble of next", house.trouble(), 1);
        due("new: gain", house.gain(0, true), Checks.NO_GAIN);
    }

    private static void tape() {
        SteeringHouse house = new SteeringHouse();
        for (int i = 1; i <= 20; i++) {
            due("feed " + i, house.feed(538976288, 538976288, 538976288, 538976288, 538976288), 20 * i);
        }
        due("feed beyond 400", house.feed(0, 0, 0, 0, 0), -1);
        due("count 11", house.count(11), 400);
        due("thing of 401", house.thing(401), -1);
        due("tape stays by 2", house.count(11), 400);
        due("thing of 400 blanks", house.thing(400), -1);
        due("its place is the end", house.where(), 400);
        due("tape is empty by 4", house.count(11), 0);
        Checks.feed(house, PLAIN);
        due("bytes", house.count(11), 60);
        due("highest byte first", house.thing(41), 5);
        due("tape is wholly empty", house.count(11), 0);
        house.feed(-1, -1, -1, -1, -1);
        due("bytes above 127", house.thing(4), -1);
        due("they begin no token", house.fault() * 1000 + house.where(), 1000);
    }

    private static void things() {
        SteeringHouse house = Checks.house(PLAIN);
        Checks.good(house, "x > 0");
        Checks.goal(house, "x = 4");
        Checks.cost(house, "x");
        house.code(1, 1, 1, 1, 1);
        house.claim(4, 0);
        house.tick(1);
        due("a worse text", Checks.thing(house, "state x"), -1);
        due("the thing stays", house.count(5), 5);
        due("good stays", house.count(9), 4);
        due("claims stay", house.count(13), 1);
        due("ticks stay", house.count(12), 1);
        due("refused by 2", house.thing(-1), -1);
        due("trouble 2", house.trouble(), 2);
        due("the fault stays", house.fault(), 1);
        due("but no place", house.where(), -1);
        due("the same again", Checks.thing(house, PLAIN), 5);
        due("fault 0", house.fault(), 0);
        due("good as at first", house.count(9), 5);
        due("goal as at first", house.ticks(4), -2);
        due("cost as at first", house.best(4, 3), 0);
        due("code as at first", house.coded(4), 1);
        due("claims as at first", house.count(13), 0);
        due("watcher as at first", house.count(12), 0);
        due("blanks mean nothing", Checks.thing(house, "state x-2to   2;x=x+1if x<2"), 5);
        due("blanks at both ends", Checks.thing(house, "   state abcdefgh 7 to 7   "), 1);
        due("400 cells", Checks.thing(house, "state x 1 to 20; state y 1 to 20"), 400);
        due("9 pushes, 27 worlds", Checks.thing(house,
                "state x 0 to 0; push u 0 to 2; push v 0 to 2; world w 0 to 2; world d 1 to 3; num k 4 to 6"), 1);
        due("9 pushes", house.count(6), 9);
        due("27 worlds", house.count(7), 27);
    }

    private static void fault(String text, int number, int place) {
        SteeringHouse house = new SteeringHouse();
        due(text, Checks.thing(house, text), -1);
        due("trouble of: " + text, house.trouble(), 4);
        due("fault of: " + text, house.fault(), number);
        due("place of: " + text, house.where(), place);
        due("no thing by: " + text, house.count(0), -1);
    }

    private static void formFaults() {
        fault("", 1, 0);
        fault("   ", 1, 3);
        fault(";", 1, 0);
        fault("3", 1, 0);
        fault("State x 0 to 1", 1, 0);
        fault("state", 1, 5);
        fault("state 3 0 to 1", 1, 6);
        fault("state x", 1, 7);
        fault("state x to 3", 1, 8);
        fault("state x 0", 1, 9);
        fault("state x - - 1 to 3", 1, 10);
        fault("state x 0 to", 1, 12);
        fault("state x 0 to - ", 1, 15);
        fault("state x 0 to 1;;", 1, 15);
        fault("state x 0 to 1; ", 1, 16);
        fault("state x 0 to 1 if x = 1", 1, 15);
        fault("state abcdefghi 0 to 1", 1, 6);
        fault("state x 0 to 1000", 1, 13);
        fault("state x 0 to 1\n", 1, 14);
        fault("state x 0 to 1; x", 1, 17);
        fault("state x 0 to 1; x < 1", 1, 18);
        fault("state x 0 to 1; x = ", 1, 20);
        fault("state x 0 to 1; x = + 1", 1, 20);
        fault("state x 0 to 1; x = - - 1", 1, 22);
        fault("state x 0 to 1; x = 1 + - 1", 1, 24);
        fault("state x 0 to 1; x = 2 * - 1", 1, 24);
        fault("state x 0 to 1; x = x x", 1, 22);
        fault("state x 0 to 1; x = x if", 1, 24);
        fault("state x 0 to 1; x = x if x + 1", 1, 30);
        fault("state x 0 to 1; x = x if x = 1 = 1", 1, 31);
        fault("state x 0 to 1; x = x if x = 1 and", 1, 34);
        fault("state x 0 to 1; x = x and x = 1", 1, 22);
        fault("state x 0 to 1; sight", 1, 21);
        fault("state x 0 to 1; sight s 0 to 1", 1, 24);
        fault("state x 0 to 1; sight s = x if x = 1", 1, 28);
        fault("state x 0 to 1; x = state", 1, 20);
        fault("state x 0 to 1; x = if", 1, 20);
        fault("state x 0 to 1; x = x if and", 1, 25);
    }

    private static void nameFaults() {
        fault("x = 1", 2, 0);
        fault("to", 2, 0);
        fault("if 3", 2, 0);
        fault("and", 2, 0);
        fault("statex 0 to 1", 2, 0);
        fault("state x 0 to 1; push u 0 to 1; u = 1", 2, 31);
        fault("state x 0 to 1; world w 0 to 1; w = 1", 2, 32);
        fault("state x 0 to 1; num k 0 to 1; k = 1", 2, 30);
        fault("state x 0 to 1; sight s = 1; s = 1", 2, 29);
        fault("x = 1; state x 0 to 1", 2, 0);
        fault("state x 0 to 1; x = u; push u 0 to 1", 2, 20);
        fault("state x 0 to 1; sight s = s", 2, 26);
        fault("state x 0 to 1; sight s = x; sight r = s", 2, 39);
        fault("state x 0 to 1; x = x if q = 1", 2, 25);
        fault("state x 0 to 1; state x 0 to 1", 3, 22);
        fault("state x 0 to 1; sight x = 1", 3, 22);
        fault("state x 0 to 1; sight s = 1; num s 0 to 1", 3, 33);
        for (String word : new String[] {"state", "push", "world", "num", "sight", "to", "if", "and"}) {
            fault("world " + word + " 0 to 1", 3, 6);
        }
    }

    private static void spanFaults() {
        fault("state x -21 to 0", 4, 12);
        fault("state x 21 to", 4, 11);
        fault("state x 999 to ?", 4, 12);
        fault("state x 21 0", 1, 11);
        fault("state x 0 to 21", 4, 10);
        fault("state x 0 to - 1", 4, 10);
        fault("state x -20 to -21", 4, 12);
        fault("push u 5 to 4", 4, 9);
        fault("num k 0 to 999; x", 4, 8);
        due("widest", Checks.thing(new SteeringHouse(), "state x -20 to 20"), 41);
        due("narrowest", Checks.thing(new SteeringHouse(), "state x -20 to - 20"), 1);
    }

    private static void manyFaults() {
        fault("push u 0 to 1", 5, 13);
        fault("push u 0 to 1   ", 5, 16);
        fault("state a 0 to 0; state b 0 to 0; state c 0 to 0; state d", 5, 54);
        fault("state a 0 to 0; state b 0 to 0; state c 0 to 0; state a", 3, 54);
        fault("push a 0 to 0; push b 0 to 0; push c 0 to 0", 5, 35);
        fault("world a 0 to 0; world b 0 to 0; world c 0 to 0", 5, 38);
        fault("num a 0 to 0; num b 0 to 0; num c 0 to 0", 5, 32);
        fault("sight a = 1; sight b = 1; sight c = 1", 5, 32);
        fault("state x 0 to 20; state y 0 to 19", 5, 32);
        fault("state x 0 to 1; push u 0 to 9", 5, 29);
        fault("state x 0 to 1; push u 0 to 4; push v 0 to 1", 5, 44);
        fault("state x 0 to 1; world w 0 to 13; num k 0 to 1", 5, 45);
        String steps = ";x=1;x=1;x=1;x=1;x=1;x=1;x=1;x=1";
        due("8 steps", Checks.thing(new SteeringHouse(), "state x 0 to 1" + steps), 2);
        fault("state x 0 to 1" + steps + ";x?", 5, 47);
        fault("state x 0 to 1" + steps + ";y", 2, 47);
        String factors = "x" + "*x".repeat(58);
        due("60 factors", Checks.thing(new SteeringHouse(), "state x 0 to 1;x=1;x=" + factors), 2);
        fault("state x 0 to 1;x=1;x=" + factors + "+x", 5, 139);
        fault("state x 0 to 1;x=1;x=" + factors + "+q", 2, 139);
        fault("state x 0 to 1;x=1;x=" + factors + "+if", 1, 139);
        fault("state x 0 to 1;x=1;x=" + factors + ";sight s=3", 5, 147);
        fault("state x 0 to 1;x=1 if x=1;x=" + factors, 5, 142);
    }

    private static void firstFault() {
        fault("x = 1; ?", 2, 0);
        fault("state x 0 to 1; y ?", 2, 16);
        fault("state x 0 to 1 ? y", 1, 15);
        fault("push u 0 to 1; push v 0 to 9", 5, 28);
        fault("push u 0 to 1; push v 0 to 9;", 1, 29);
    }

    private static void wishes() {
        SteeringHouse house = Checks.house("state x -2 to 2; state y 0 to 1; push u 0 to 1");
        due("good at first", house.count(9), 10);
        due("good", Checks.good(house, "x > - 1 and y = 0"), 3);
        due("count 9", house.count(9), 3);
        due("good again", Checks.good(house, "x * x = 4"), 4);
        due("good of none", Checks.good(house, "1 = 2"), 0);
        due("good of all", Checks.good(house, "1 < 2"), 10);
        due("goal, good or not", Checks.goal(house, "x + y > 1"), 3);
        Checks.good(house, "x < 2");
        due("goal, good or not", Checks.goal(house, "x + y > 1"), 3);
        due("ticks of a good goal", house.ticks(house.cell(1, 1, 0)), 0);
        due("ticks of a goal that isn't good", house.ticks(house.cell(2, 1, 0)), -2);
        due("cost", Checks.cost(house, "3 * u - x"), 0);
        due("cost by push and state", house.best(house.cell(-2, 0, 0), 1), 2);
        Checks.cost(house, "0 - 5");
        due("cost below 0", house.best(0, 5), 0);
        Checks.cost(house, "999 + 2");
        due("cost above 1000", house.best(0, 3), 3000);
        due("tape shorter than n", house.good(1), -1);
        due("trouble 2", house.trouble(), 2);
    }

    private static void wishFault(String text, int which, int number, int place) {
        SteeringHouse house = Checks.house("state x 0 to 4; push u 0 to 1; world w 0 to 1; num k 0 to 1; sight s = x");
        Checks.good(house, "x < 3");
        int got = which == 0 ? Checks.good(house, text) : which == 1 ? Checks.goal(house, text)
                : Checks.cost(house, text);
        due(text, got, -1);
        due("trouble of: " + text, house.trouble(), 4);
        due("fault of: " + text, house.fault(), number);
        due("place of: " + text, house.where(), place);
        due("tape after: " + text, house.count(11), 0);
        due("good after: " + text, house.count(9), 3);
    }

    private static void wishFaults() {
        for (int which = 0; which < 2; which++) {
            wishFault("", which, 1, 0);
            wishFault("x", which, 1, 1);
            wishFault("x < 1 x", which, 1, 6);
            wishFault("x < 1;", which, 1, 5);
            wishFault("if x < 1", which, 1, 0);
            wishFault("x + u < 1", which, 2, 4);
            wishFault("w = 1", which, 2, 0);
            wishFault("k = 1", which, 2, 0);
            wishFault("x = s", which, 2, 4);
            wishFault("x = q", which, 2, 4);
            wishFault("x = " + "1+".repeat(59) + "1", which, 5, 122);
        }
        wishFault("", 2, 1, 0);
        wishFault("x = 1", 2, 1, 2);
        wishFault("u + w", 2, 2, 4);
        wishFault("k", 2, 2, 0);
        wishFault("s", 2, 2, 0);
        wishFault("x u", 2, 1, 2);
        wishFault("1+".repeat(60) + "1", 2, 5, 120);
        SteeringHouse house = new SteeringHouse();
        Checks.feed(house, "x < 3");
        due("good without a thing", house.good(5), -1);
        due("goal without a thing", house.goal(500), -1);
        due("trouble 1", house.trouble(), 1);
        due("cost without a thing", house.cost(-5), -1);
        due("trouble 1", house.trouble(), 1);
        due("tape stays by 1", house.count(11), 20);
        due("fault is 0", house.fault(), 0);
    }

    private static void counts() {
        SteeringHouse house = Checks.house("state x 0 to 2; state y 0 to 1; push u 0 to 1; push v 0 to 1; "
                + "world w 0 to 1; num k 0 to 2; sight s = x; sight r = y; x = x; x = y; y = 1 if x = 1");
        int[] want = {2, 2, 1, 1, 2, 6, 4, 6, 3, 6, 0, 0, 0, 0};
        for (int what = 0; what < want.length; what++) {
            due("count " + what, house.count(what), want[what]);
        }
        house.tick(0);
        house.claim(3, 7);
        due("count 12", house.count(12), 1);
        due("count 13", house.count(13), 1);
        due("count 14", house.count(14), -1);
        due("count -1", house.count(-1), -1);
        due("count most", house.count(2147483647), -1);
        due("count least", house.count(-2147483648), -1);
        due("linear", Checks.house(PLAIN).count(10), 1);
    }

    private static void cellsAndPushes() {
        SteeringHouse house = Checks.house("state x -1 to 1; state y 0 to 3; push u 2 to 3; push v -1 to 1");
        due("first state slowest", house.cell(0, 0, 0), 4);
        due("last cell", house.cell(1, 3, 77), 11);
        due("beyond a span", house.cell(2, 0, 0), -1);
        due("beyond a span", house.cell(0, -1, 0), -1);
        due("beyond far", house.cell(-2147483648, 2147483647, 0), -1);
        due("state 0", house.state(5, 0), 0);
        due("state 1", house.state(5, 1), 1);
        due("state 2", house.state(5, 2), Checks.NO_VALUE);
        due("state -1", house.state(5, -1), Checks.NO_VALUE);
        due("state of cell 12", house.state(12, 0), Checks.NO_VALUE);
        due("state of cell -1", house.state(-1, 0), Checks.NO_VALUE);
        due("push 0", house.push(4, 0), 3);
        due("push 1", house.push(4, 1), 0);
        due("push 2", house.push(4, 2), Checks.NO_VALUE);
        due("push -1", house.push(4, -1), Checks.NO_VALUE);
        due("PUSH 6", house.push(6, 0), Checks.NO_VALUE);
        due("PUSH -1", house.push(-1, 0), Checks.NO_VALUE);
        SteeringHouse still = Checks.house("state x 0 to 1");
        due("one PUSH without pushes", still.count(6), 1);
        due("which has no push", still.push(0, 0), Checks.NO_VALUE);
        due("one WORLD without worlds", still.count(7), 1);
        due("it stays", still.next(1, 0, 0), 1);
    }

    private static void nexts() {
        SteeringHouse house = Checks.house("state x 0 to 3; state y 0 to 3; push u 0 to 1; world w 0 to 1; "
                + "num k 0 to 2; x = y; y = x; x = 3 if u = 1");
        due("all at once, of the values as they were", house.next(house.cell(1, 2, 0), 0, 0), house.cell(2, 1, 0));
        due("the first step whose test holds", house.next(house.cell(1, 2, 0), 1, 0), house.cell(2, 1, 0));
        SteeringHouse order = Checks.house("state x 0 to 3; push u 0 to 1; x = 3 if u = 1; x = 0 if x > 1; x = x + 1 "
                + "if x = 0");
        due("first step", order.next(2, 1, 0), 3);
        due("second step", order.next(2, 0, 0), 0);
        due("third step", order.next(0, 0, 0), 1);
        due("none", order.next(1, 0, 0), 1);
        SteeringHouse worlds = Checks.house("state x 0 to 8; world w 0 to 1; num k 0 to 2; world d 0 to 0; "
                + "x = x + 3 * w + k");
        due("worlds first, nums last", worlds.next(0, 0, 4), 4);
        due("out", worlds.next(8, 0, 1), -2);
        due("trouble 0", worlds.trouble(), 0);
        due("no world", worlds.next(0, 0, 6), -1);
        due("trouble 1", worlds.trouble(), 1);
        due("no push", worlds.next(0, 1, 0), -1);
        due("no cell", worlds.next(9, 0, 0), -1);
        due("below", worlds.next(-1, 0, 0), -1);
        due("below", worlds.next(0, -1, 0), -1);
        due("below", worlds.next(0, 0, -1), -1);
    }

    private static void sums() {
        SteeringHouse house = Checks.house("state x -2 to 2; sight s = - 999 * 999 * 2 + 999 * 999 + 3; "
                + "sight r = 999 * 999 * 9 * 0 - x * x * x + 2");
        due("bound behind each sign", house.sight(0, 0, 0, 0), -1000000 + 998001 + 3);
        due("nothing of it", house.sight(0, 0, 0, 1), 10);
        SteeringHouse tests = Checks.house("state x -2 to 2; x = 0 - x if x < 0 and x + 1 > - 1; x = 1 if x * x = 4 "
                + "and x > 0; x = 0 - 2 if x = 0");
        due("x -2", tests.next(0, 0, 0), 0);
        due("x -1", tests.next(1, 0, 0), 3);
        due("x 0", tests.next(2, 0, 0), 0);
        due("x 1", tests.next(3, 0, 0), 3);
        due("x 2", tests.next(4, 0, 0), 3);
        SteeringHouse bound = Checks.house("state x 0 to 1; sight s = 999 * 999 + 999 * 999 - 999 * 999");
        due("a bound sum goes on from the bound", bound.sight(0, 0, 0, 0), 1000000 - 998001);
    }

    private static void sights() {
        SteeringHouse house = Checks.house("state x 0 to 3; push u 0 to 1; world w 0 to 2; num k 5 to 6; "
                + "sight s = x + 10 * u + 100 * w; sight r = k");
        due("sight", house.sight(3, 1, 4, 0), 213);
        due("sight of a num", house.sight(3, 1, 5, 1), 6);
        due("no sight", house.sight(3, 1, 5, 2), Checks.NO_VALUE);
        due("no sight", house.sight(3, 1, 5, -1), Checks.NO_VALUE);
        due("no cell", house.sight(4, 1, 5, 0), Checks.NO_VALUE);
        due("no push", house.sight(3, 2, 5, 0), Checks.NO_VALUE);
        due("no world", house.sight(3, 1, 6, 0), Checks.NO_VALUE);
        due("trouble as it was", house.trouble(), 0);
    }
}
