import java.util.NoSuchElementException;

/** Promises 15 to 23: safe cells, layers, allowed pushes, ticks, laws, best, worst, margin. */
public final class WishesTest {
    private static final String LINE = "state x 0 to 4; push u -1 to 1; x = x + u";
    private static final String BLOWN = "state x -3 to 3; push u -1 to 1; world w -1 to 1; x = x + u + w";

    public static void main(String[] args) {
        absent();
        safety();
        layers();
        allowedBits();
        reaching();
        laws();
        paying();
        payingLost();
        hardest();
        margins();
        numsAndMargins();
        newWishes();
        longestChain();
        Checks.end("WishesTest");
    }

    private static void due(String what, long got, long want) {
        Checks.due(what, got, want);
    }

    private static int worst(SteeringHouse house, int cell, int horizon, int i) {
        try {
            return house.worst(cell, horizon, i);
        } catch (NoSuchElementException none) {
            return 77777;
        }
    }

    private static void absent() {
        SteeringHouse house = new SteeringHouse();
        due("safe", house.safe(), -1);
        due("trouble", house.trouble(), 1);
        due("layer", house.layer(0), -1);
        due("allowed", house.allowed(0), -1);
        due("ticks", house.ticks(0), -1);
        due("law", house.law(0), -1);
        due("margin", house.margin(0), -1);
        due("best", house.best(0, 0), -1);
        due("bestLaw", house.bestLaw(0, 1), -1);
        due("worst", worst(house, 0, 1, 0), 77777);
        SteeringHouse line = Checks.house(LINE);
        for (int cell : new int[] {-1, 5, 2147483647, -2147483648}) {
            due("layer", line.layer(cell), -1);
            due("allowed", line.allowed(cell), -1);
            due("ticks", line.ticks(cell), -1);
            due("law", line.law(cell), -1);
            due("margin", line.margin(cell), -1);
            due("best", line.best(cell, 99), -1);
            due("trouble of best", line.trouble(), 1);
            due("bestLaw", line.bestLaw(cell, 0), -1);
            due("trouble of bestLaw", line.trouble(), 1);
            due("worst", worst(line, cell, 1, 0), 77777);
        }
    }

    private static void safety() {
        SteeringHouse house = Checks.house(LINE);
        due("all safe", house.safe(), 5);
        Checks.good(house, "x > 1");
        due("three safe", house.safe(), 3);
        Checks.good(house, "1 = 2");
        due("none safe", house.safe(), 0);
        SteeringHouse drift = Checks.house("state x 0 to 9; x = x + 1");
        due("it goes out", drift.safe(), 0);
        SteeringHouse kept = Checks.house("state x 0 to 9; x = x + 1 if x < 9");
        due("it stays", kept.safe(), 10);
        SteeringHouse blown = Checks.house(BLOWN);
        due("the world can be kept up with", blown.safe(), 7);
        SteeringHouse strong = Checks.house("state x -3 to 3; push u -1 to 1; world w -2 to 2; x = x + u + w");
        due("the world is stronger", strong.safe(), 0);
        SteeringHouse out = Checks.house("state x 0 to 3; state y 0 to 7; push u 1 to 1; y = y + u");
        due("out is never in the set, at a word's end too", out.safe(), 0);
    }

    private static void layers() {
        SteeringHouse drift = Checks.house("state x 0 to 9; x = x + 1");
        for (int cell = 0; cell < 10; cell++) {
            due("layer of " + cell, drift.layer(cell), 10 - cell);
        }
        Checks.good(drift, "x < 8");
        due("last good one", drift.layer(7), 1);
        due("first", drift.layer(0), 8);
        due("not good", drift.layer(8), -2);
        SteeringHouse fork = Checks.house("state x 0 to 5; push u 1 to 2; x = x + u if x < 4; x = 9 if x = 5");
        due("safe", fork.layer(4), 0);
        due("gone first", fork.layer(5), 1);
        due("can avoid it", fork.layer(3), 0);
        due("safe cells", fork.safe(), 5);
    }

    private static void allowedBits() {
        SteeringHouse house = Checks.house(LINE);
        due("at the low end", house.allowed(0), 6);
        due("within", house.allowed(2), 7);
        due("at the high end", house.allowed(4), 3);
        Checks.good(house, "x < 4");
        due("not good", house.allowed(4), 0);
        due("beside it", house.allowed(3), 3);
        SteeringHouse blown = Checks.house(BLOWN);
        due("end, against the world", blown.allowed(0), 4);
        due("one before", blown.allowed(1), 6);
        SteeringHouse late = Checks.house("state x 0 to 3; push u 0 to 1; x = 3 if x = 2; x = 9 if x = 3; x = x + 2 * u");
        due("a push into what goes in a later round", late.allowed(0), 1);
        due("it goes in round 2", late.layer(2), 2);
    }

    private static void reaching() {
        SteeringHouse house = Checks.house(LINE);
        due("no goal until told", house.ticks(2), -2);
        Checks.goal(house, "x = 1");
        int[] want = {1, 0, 1, 2, 3};
        for (int cell = 0; cell < 5; cell++) {
            due("ticks of " + cell, house.ticks(cell), want[cell]);
        }
        Checks.good(house, "x = 0 + x * x * x and x < 9");
        due("only 0 and 1 are good", house.count(9), 2);
        due("not good", house.ticks(2), -2);
        due("good", house.ticks(0), 1);
        SteeringHouse worst = Checks.house("state x 0 to 9; world w 1 to 3; x = x - w if x > 2; x = 0");
        Checks.goal(worst, "x = 0");
        due("at the worst, 9", worst.ticks(9), 8);
        due("at the worst, 3", worst.ticks(3), 2);
        SteeringHouse through = Checks.house("state x 0 to 2; x = 0 if x = 2; x = 1 if x = 0");
        Checks.goal(through, "x = 1");
        due("through cell 0", through.ticks(2), 2);
        SteeringHouse blown = Checks.house(BLOWN);
        Checks.goal(blown, "x > - 2 and x < 2");
        due("the world can hold it off", blown.ticks(5), -2);
        due("at the goal", blown.ticks(4), 0);
    }

    private static void laws() {
        SteeringHouse house = Checks.house(LINE);
        Checks.goal(house, "x = 1");
        due("at the goal", house.law(1), -2);
        due("up", house.law(0), 2);
        due("down", house.law(4), 0);
        SteeringHouse same = Checks.house("state x 0 to 4; push u 0 to 2; push v 0 to 1; x = x + 1 if u > 0 and x < 4");
        Checks.goal(same, "x = 4");
        due("the least of the pushes that do", same.law(2), 2);
        due("in ticks", same.ticks(2), 2);
        Checks.goal(same, "x = 0");
        due("none", same.law(3), -2);
    }

    private static void paying() {
        SteeringHouse house = Checks.house(LINE);
        Checks.cost(house, "x + u * u");
        due("over 0", house.best(4, 0), 0);
        due("over 1", house.best(4, 1), 4);
        due("law over 1", house.bestLaw(4, 1), 1);
        due("over 2: 4 + 1, then 3", house.best(4, 2), 8);
        due("of as dear ones the least push", house.bestLaw(4, 2), 0);
        due("over 3: 5, 4, 2", house.best(4, 3), 11);
        due("law over 3", house.bestLaw(4, 3), 0);
        due("horizon 20", house.best(0, 20), 0);
        for (int horizon : new int[] {-1, 21, 2147483647, -2147483648}) {
            due("best over " + horizon, house.best(0, horizon), -1);
            due("trouble", house.trouble(), 2);
            due("bestLaw over " + horizon, house.bestLaw(0, horizon), -1);
            due("trouble", house.trouble(), 2);
        }
        due("bestLaw over 0", house.bestLaw(0, 0), -1);
        due("trouble", house.trouble(), 2);
        due("bestLaw over 20", house.bestLaw(0, 20), 1);
        due("trouble", house.trouble(), 0);
    }

    private static void payingLost() {
        SteeringHouse house = Checks.house("state x 0 to 3; world w 0 to 1; push u 0 to 1; x = x + u + w");
        Checks.cost(house, "5 - 5 * u");
        due("out", house.best(3, 1), 1000000);
        due("law though it is lost", house.bestLaw(3, 1), 0);
        due("lost later", house.best(2, 2), 1000000);
        due("not yet", house.best(2, 1), 5);
        due("law", house.bestLaw(2, 1), 0);
        due("dear and then cheap", house.best(0, 2), 5);
        Checks.good(house, "x > 0");
        due("not good over 0", house.best(0, 0), 1000000);
        due("not good over 4", house.best(0, 4), 1000000);
        due("law of one that isn't good", house.bestLaw(0, 4), -2);
        due("trouble", house.trouble(), 0);
    }

    private static void hardest() {
        SteeringHouse house = Checks.house(BLOWN);
        Checks.cost(house, "x * x");
        due("world away from 0", worst(house, house.cell(2, 0, 0), 2, 0), 2);
        due("last: all are alike, the least", worst(house, house.cell(2, 0, 0), 2, 1), 0);
        due("from below", worst(house, house.cell(-2, 0, 0), 2, 0), 0);
        due("no horizon", worst(house, 0, 0, 0), 77777);
        due("horizon 21", worst(house, 0, 21, 0), 77777);
        due("horizon 20", worst(house, 3, 20, 19), 0);
        due("i -1", worst(house, 0, 2, -1), 77777);
        due("i 2", worst(house, 0, 2, 2), 77777);
        SteeringHouse drift = Checks.house("state x 0 to 3; world w 0 to 1; x = 9 if w = 1 and x = 2; x = 3 if x = 1 "
                + "and w = 1; x = 0");
        due("the one that leads out", worst(drift, 2, 3, 0), 1);
        due("it was out", worst(drift, 2, 3, 1), -2);
        due("it was out long ago", worst(drift, 2, 3, 2), -2);
        Checks.good(drift, "x < 3");
        due("to a cell that isn't good", worst(drift, 1, 2, 0), 1);
        due("it was there", worst(drift, 1, 2, 1), -2);
        due("not good at first", worst(drift, 3, 1, 0), -2);
        Checks.good(drift, "x < 9");
        due("to a good one", worst(drift, 1, 2, 0), 0);
        due("and on", worst(drift, 1, 2, 1), 0);
        due("trouble as it was", drift.trouble(), 0);
    }

    private static void margins() {
        SteeringHouse house = Checks.house("state x -3 to 3; push u -3 to 3; world w 0 to 0; x = x + u + w if x < 3; "
                + "x = x + u");
        due("kept by two more", house.margin(0), 2);
        SteeringHouse blown = Checks.house(BLOWN);
        due("at its end already", blown.margin(3), 0);
        SteeringHouse one = Checks.house("state x -3 to 3; push u -2 to 2; world w -1 to 1; x = x + u + w");
        due("by one more", one.margin(3), 1);
        Checks.good(one, "x < 0");
        due("three cells are good", one.count(9), 3);
        due("kept within three", one.margin(0), 0);
        due("not good", one.margin(4), -2);
        SteeringHouse end = Checks.house("state x 0 to 9; world w 20 to 20; x = w - 20 if w > 20; x = 30 if w > 21; x = 0");
        due("wider than a span may be told", end.margin(0), 2);
        SteeringHouse out = Checks.house("state x 0 to 9; world w 20 to 20; x = w - 1 if w > 21; x = 0");
        due("by one, not by two", out.margin(0), 1);
        SteeringHouse two = Checks.house("state x 0 to 9; world w 0 to 0; world d 5 to 5; x = 12 if d - w > 6; x = 1");
        due("both are made wider", two.margin(0), 0);
        SteeringHouse low = Checks.house("state x 0 to 9; world w 0 to 0; num k 0 to 0; x = 12 if w = - 2; x = 1");
        due("the low end is the first world", low.margin(0), 1);
        SteeringHouse none = Checks.house("state x 0 to 9");
        due("no world", none.margin(0), 2);
    }

    private static void numsAndMargins() {
        SteeringHouse house = Checks.house("state x 0 to 9; num k 0 to 1; x = 99 if k > 1; x = 99 if k < 0; x = k");
        due("nums are not made wider", house.margin(0), 2);
        SteeringHouse both = Checks.house("state x 0 to 9; world w 0 to 0; num k 0 to 1; x = 99 if k * w > 1; x = 1");
        due("but count with each world", both.margin(0), 1);
        due("safe", both.safe(), 10);
        SteeringHouse far = Checks.house("state x 0 to 2; world w 0 to 0; x = 2 if w > 0; x = 9 if x = 2 and w > 0");
        due("into a cell from which it stays", far.margin(0), 2);
        SteeringHouse chain = Checks.house("state x 0 to 2; world w 0 to 0; x = 9 if x = 2 and w = 1; x = x + 1 if w = 1 "
                + "and x < 2");
        due("goes in a later round", chain.margin(0), 0);
        SteeringHouse first = Checks.house("state x 0 to 2; world w 0 to 0; x = 9 if x = 0 and w = 1; x = 0 if x = 1 "
                + "and w = 0");
        due("by a narrow world into what a wide one takes", first.margin(1), 0);
        due("by none", first.margin(2), 2);
    }

    private static void newWishes() {
        SteeringHouse house = Checks.house(LINE);
        due("safe", house.safe(), 5);
        Checks.goal(house, "x = 0");
        due("ticks", house.ticks(4), 4);
        due("margin", house.margin(4), 2);
        Checks.good(house, "x < 3");
        due("safe of the new good", house.safe(), 3);
        due("ticks of the new good", house.ticks(4), -2);
        due("margin of the new good", house.margin(4), -2);
        due("best of the new good", house.best(4, 0), 1000000);
        Checks.goal(house, "x = 2");
        due("ticks of the new goal", house.ticks(0), 2);
        due("law of the new goal", house.law(0), 2);
        Checks.thing(house, "state x 0 to 2; x = x + 1");
        due("safe of the new thing", house.safe(), 0);
    }

    private static void longestChain() {
        SteeringHouse house = Checks.house("state x 0 to 19; state y 0 to 19; y = y + 1 if y < 19; y = 0; "
                + "x = x + 1 if y = 19");
        due("cells", house.count(5), 400);
        due("nothing is safe", house.safe(), 0);
        due("the first cell goes last", house.layer(0), 400);
        due("the last cell goes first", house.layer(399), 1);
        Checks.goal(house, "x = 19 and y = 19");
        due("ticks from the first", house.ticks(0), 399);
        due("law from the first", house.law(0), 0);
        due("margin", house.margin(0), -2);
        due("lost over 20", house.best(380, 20), 1000000);
        due("not lost over 19", house.best(380, 19), 0);
    }
}
