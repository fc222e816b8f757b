/** Promises 29 to 38: ticks, sights told at once and late, faults, nums narrowed and probed. */
public final class WatcherTest {
    private static final String NUMS = "state x 0 to 4; push u 0 to 1; num k 1 to 2; sight s = x; x = x + k * u";

    public static void main(String[] args) {
        absent();
        ticks();
        tellings();
        canByWorlds();
        numsStay();
        firstSights();
        sightsOfMoves();
        lateSights();
        guesses();
        pushFaults();
        sightFaults();
        nearestEnd();
        known();
        probes();
        anew();
        goodChanges();
        thirtyTicks();
        Checks.end("WatcherTest");
    }

    private static void due(String what, long got, long want) {
        Checks.due(what, got, want);
    }

    private static void due(String what, boolean got, boolean want) {
        Checks.due(what, got, want);
    }

    private static void absent() {
        SteeringHouse house = new SteeringHouse();
        due("tick", house.tick(0), -1);
        due("trouble", house.trouble(), 1);
        due("told", house.told(0, 0, 0), false);
        due("can", house.can(0), -1);
        due("canBe", house.canBe(0), -1);
        due("guess", house.guess(0, true), Checks.NO_VALUE);
        due("named", house.named(), -1);
        due("known", house.known(0), -1);
        due("fit", house.fit(), -1);
        due("probe", house.probe(0), -1);
        due("anew", house.anew(), -1);
        due("trouble", house.trouble(), 1);
    }

    private static void ticks() {
        SteeringHouse house = Checks.house("state x 0 to 1; push u 0 to 1");
        due("no push", house.tick(2), -1);
        due("trouble", house.trouble(), 1);
        due("no push", house.tick(-1), -1);
        for (int i = 1; i <= 30; i++) {
            due("tick " + i, house.tick(i % 2), i);
            due("trouble", house.trouble(), 0);
        }
        due("tick 31", house.tick(0), -1);
        due("trouble", house.trouble(), 3);
        due("no push comes first", house.tick(2), -1);
        due("trouble", house.trouble(), 1);
        due("ticks", house.count(12), 30);
        due("known at 30", house.known(30), 2);
        due("known at 31", house.known(31), -1);
        due("can", house.can(0), 2);
    }

    private static void tellings() {
        SteeringHouse house = Checks.house("state x 0 to 4; push u 0 to 1; sight s = x; sight r = x * x; x = x + u");
        due("told of no sight", house.told(0, 2, 0), false);
        due("trouble", house.trouble(), 1);
        due("told of no sight", house.told(0, -1, 0), false);
        due("told of a tick to come", house.told(1, 0, 0), false);
        due("trouble", house.trouble(), 1);
        due("told of no tick", house.told(-1, 0, 0), false);
        due("told", house.told(0, 1, 4), true);
        due("trouble", house.trouble(), 0);
        due("told again", house.told(0, 1, 4), false);
        due("trouble", house.trouble(), 5);
        due("told the other", house.told(0, 0, 2), true);
        house.tick(1);
        due("told of tick 1", house.told(1, 0, 3), true);
        due("told of tick 1 again", house.told(1, 0, 3), false);
        due("can", house.can(0), 1);
        due("is there", house.canBe(3), 1);
        due("isn't there", house.canBe(2), 0);
        due("no cell", house.canBe(5), -1);
        due("no cell", house.canBe(-1), -1);
        due("any int can be told", house.told(1, 1, -2147483648), true);
        due("but none is there", house.can(0), 0);
    }

    private static void canByWorlds() {
        SteeringHouse house = Checks.house("state x -3 to 3; push u -1 to 1; world w -1 to 1; sight s = x; x = x + u + w");
        due("all at first", house.can(0), 7);
        house.told(0, 0, 0);
        due("told", house.can(0), 1);
        house.tick(2);
        due("worlds any each tick", house.can(0), 3);
        house.tick(2);
        due("it never went out", house.can(0), 4);
        house.tick(1);
        due("nor then", house.can(0), 5);
        due("no such fault", house.can(3), -1);
        due("trouble", house.trouble(), 1);
        due("no such fault", house.can(-1), -1);
        due("the last fault: a failing sight would have told 0, too", house.can(2), 7);
        due("trouble", house.trouble(), 0);
    }

    private static void numsStay() {
        SteeringHouse house = Checks.house(NUMS);
        due("fit at first", house.fit(), 2);
        house.told(0, 0, 0);
        house.tick(1);
        due("either", house.can(0), 2);
        house.tick(1);
        due("the same in all ticks: 2 or 4, not 3", house.can(0), 2);
        due("2", house.canBe(2), 1);
        due("3", house.canBe(3), 0);
        due("4", house.canBe(4), 1);
        house.told(1, 0, 2);
        due("now the num is known", house.fit(), 1);
        due("and the cell", house.can(0), 1);
        house.tick(1);
        due("it would have gone out", house.fit(), 0);
        SteeringHouse two = Checks.house("state x 0 to 9; num k 0 to 2; num m 0 to 2; sight s = x; x = k + m");
        two.tick(0);
        due("nine together", two.fit(), 9);
        two.told(1, 0, 1);
        due("two together", two.fit(), 2);
        SteeringHouse none = Checks.house("state x 0 to 1; sight s = x");
        due("without nums one", none.fit(), 1);
        none.told(0, 0, 7);
        due("or none", none.fit(), 0);
    }

    private static void firstSights() {
        SteeringHouse house = Checks.house("state x 0 to 4; push u 2 to 3; world w 1 to 2; num k 0 to 1; "
                + "sight s = x + 10 * u + 100 * w + 500 * k");
        house.told(0, 0, 103);
        due("0 for pushes, the least for worlds", house.can(0), 1);
        due("there", house.canBe(3), 1);
        due("nums as they are", house.fit(), 1);
        SteeringHouse other = Checks.house("state x 0 to 4; push u 2 to 3; world w 1 to 2; num k 0 to 1; "
                + "sight s = x + 10 * u + 100 * w + 500 * k");
        other.told(0, 0, 604);
        due("the other num", other.fit(), 1);
        due("there", other.canBe(4), 1);
        other.anew();
        other.told(0, 0, 204);
        due("no other world", other.can(0), 0);
    }

    private static void sightsOfMoves() {
        SteeringHouse house = Checks.house("state x 0 to 9; push u 0 to 2; world w 0 to 3; sight s = x + 10 * u + 100 * w; "
                + "x = u + w");
        house.tick(2);
        house.told(1, 0, 325);
        due("world 3, push 2, so at 5", house.can(0), 1);
        due("at 5", house.canBe(5), 1);
        house.tick(0);
        house.told(2, 0, 203);
        due("world 2 leads to 2, not to 3", house.can(0), 0);
        due("by push 1 failing", house.can(1), 0);
        due("by sight 1 failing", house.can(2), 0);
        due("no fault is left", house.named(), -3);
        SteeringHouse same = Checks.house("state x 0 to 1; world w 0 to 1; sight s = w; sight r = 1 - w; x = x");
        same.tick(0);
        same.told(1, 0, 1);
        due("one world for both sights", same.can(0), 2);
        same.told(1, 1, 1);
        due("not another for each", same.can(0), 0);
    }

    private static void lateSights() {
        SteeringHouse house = Checks.house("state x 0 to 4; push u 0 to 1; sight s = x; x = x + u");
        house.tick(1);
        house.tick(1);
        due("not known", house.can(0), 3);
        due("told late", house.told(0, 0, 1), true);
        due("now known", house.can(0), 1);
        due("at 3", house.canBe(3), 1);
        due("told at once", house.told(2, 0, 3), true);
        due("told late, and wrong", house.told(1, 0, 3), true);
        due("none", house.can(0), 0);
    }

    private static void guesses() {
        SteeringHouse house = Checks.house("state x -2 to 2; state y 0 to 3; push u 0 to 1; sight s = x + y; x = x");
        due("least", house.guess(0, false), -2);
        due("most", house.guess(1, true), 3);
        house.told(0, 0, 4);
        due("least", house.guess(0, false), 1);
        due("most", house.guess(0, true), 2);
        due("least", house.guess(1, false), 2);
        due("most", house.guess(1, true), 3);
        due("no state", house.guess(2, true), Checks.NO_VALUE);
        due("no state", house.guess(-1, true), Checks.NO_VALUE);
        house.tick(0);
        house.told(1, 0, 3);
        due("no cell", house.guess(0, true), Checks.NO_VALUE);
        due("no cell", house.guess(0, false), Checks.NO_VALUE);
        due("trouble as it was", house.trouble(), 0);
    }

    private static void pushFaults() {
        SteeringHouse house = Checks.house("state x 0 to 4; push u 0 to 1; push v 0 to 1; sight s = x; x = x + u + 2 * v");
        house.told(0, 0, 0);
        house.tick(3);
        due("many are left", house.named(), -2);
        house.told(1, 0, 2);
        due("not fault 0", house.can(0), 0);
        due("push 1 fails", house.can(1), 1);
        due("push 2 doesn't", house.can(2), 0);
        due("nor the sight", house.can(3), 0);
        due("named", house.named(), 1);
        due("trouble", house.trouble(), 0);
        due("fit is of fault 0", house.fit(), 0);
        due("as are guesses", house.guess(0, true), Checks.NO_VALUE);
        due("and cells", house.canBe(2), 0);
        SteeringHouse seen = Checks.house("state x 0 to 4; push u 1 to 2; sight s = u; x = x");
        seen.tick(1);
        seen.told(1, 0, 1);
        due("the push is really another, and so it is seen", seen.named(), 1);
    }

    private static void sightFaults() {
        SteeringHouse house = Checks.house("state x 1 to 4; push u 0 to 1; sight s = x; sight r = x; x = x");
        house.told(0, 0, 0);
        due("sight 1 fails from the first", house.named(), 2);
        due("and tells nothing", house.can(2), 4);
        house.told(0, 1, 3);
        due("the other tells", house.can(2), 1);
        house.tick(0);
        house.told(1, 0, 3);
        due("a failing sight fails to the last", house.named(), -3);
        house.anew();
        house.told(0, 1, 0);
        due("sight 2", house.named(), 3);
        SteeringHouse fine = Checks.house("state x 0 to 1; sight s = x");
        fine.told(0, 0, 1);
        due("no fault but 0", fine.named(), 0);
        due("nothing to fail", Checks.house("state x 0 to 1").named(), 0);
    }

    private static void nearestEnd() {
        SteeringHouse above = Checks.house("state x 0 to 9; push u 2 to 4; sight s = x; x = u");
        above.tick(2);
        above.told(1, 0, 2);
        due("the low end", above.named(), 1);
        SteeringHouse below = Checks.house("state x -9 to 0; push u -4 to -2; sight s = x; x = u");
        below.tick(0);
        below.told(1, 0, -2);
        due("the high end", below.named(), 1);
        SteeringHouse over = Checks.house("state x -9 to 9; push u -4 to 2; sight s = x + 5; x = u");
        over.tick(0);
        over.told(1, 0, 5);
        due("0 itself", over.named(), 1);
    }

    private static void known() {
        SteeringHouse house = Checks.house(NUMS);
        house.tick(1);
        house.tick(1);
        house.told(0, 0, 0);
        due("at 0 nothing was told", house.known(0), 5);
        due("at 1 neither", house.known(1), 4);
        due("at 2 it was", house.known(2), 2);
        house.tick(0);
        house.told(3, 0, 4);
        due("what comes later isn't known", house.known(2), 2);
        due("at 3", house.known(3), 1);
        house.told(2, 0, 4);
        due("told too late for 2", house.known(2), 2);
        due("tick -1", house.known(-1), -1);
        due("tick 4", house.known(4), -1);
        due("trouble as it was", house.trouble(), 0);
        due("can goes on as it was", house.can(0), 1);
    }

    private static void probes() {
        SteeringHouse house = Checks.house("state x 0 to 4; push u 0 to 2; num k 1 to 2; world w 0 to 1; sight s = x; "
                + "x = x + k * u if x + k * u < 5");
        due("most different, the least push of those", house.probe(0), 1);
        due("only one of the nums moves it", house.probe(3), 1);
        due("all alike", house.probe(4), 0);
        due("no cell", house.probe(5), -1);
        due("trouble", house.trouble(), 1);
        house.told(0, 0, 0);
        house.tick(1);
        house.told(1, 0, 1);
        due("nothing is left to find", house.probe(0), 0);
        due("fit", house.fit(), 1);
        Checks.good(house, "x > 0");
        due("not good, so not safe", house.probe(0), -1);
        due("trouble", house.trouble(), 5);
        SteeringHouse end = Checks.house("state x 0 to 4; push u 0 to 2; num k 1 to 2; x = x + k * u");
        due("a push that isn't allowed isn't tried", end.probe(2), 1);
        due("only one is allowed", end.probe(4), 0);
        SteeringHouse gone = Checks.house("state x 0 to 4; push u 1 to 1; x = x + u");
        due("not safe", gone.probe(0), -1);
        due("trouble", gone.trouble(), 5);
        SteeringHouse worlds = Checks.house("state x 0 to 4; push u 0 to 1; world w 0 to 1; num k 1 to 2; "
                + "x = k * w if u = 0; x = 2 * k if u = 1");
        due("worlds at their least", worlds.probe(0), 1);
        SteeringHouse none = Checks.house("state x 0 to 4; push u 0 to 1; num k 1 to 2; sight s = x; x = u + k");
        none.told(0, 0, 9);
        due("none fits: the least that is allowed", none.probe(0), 0);
    }

    private static void anew() {
        SteeringHouse house = Checks.house(NUMS);
        house.told(0, 0, 0);
        house.tick(1);
        house.tick(0);
        due("anew", house.anew(), 2);
        due("trouble", house.trouble(), 0);
        due("no ticks", house.count(12), 0);
        due("all again", house.can(0), 5);
        due("told again", house.told(0, 0, 3), true);
        due("one", house.can(0), 1);
        due("anew", house.anew(), 0);
        due("fit", house.fit(), 2);
    }

    private static void goodChanges() {
        SteeringHouse house = Checks.house("state x 0 to 4; push u 0 to 1; sight s = x; x = x + u");
        Checks.good(house, "x < 2");
        due("any good one", house.can(0), 2);
        house.tick(1);
        due("it may leave them", house.canBe(2), 1);
        due("from good ones only", house.can(0), 2);
        Checks.good(house, "x < 3");
        due("by the good of now", house.can(0), 3);
        Checks.goal(house, "x = 1");
        due("the goal is of no matter", house.can(0), 3);
    }

    private static void thirtyTicks() {
        SteeringHouse house = Checks.house("state x 1 to 3; push u 0 to 1; push v 0 to 1; sight s = x + u; sight r = x + v; "
                + "x = x");
        for (int tick = 1; tick <= 30; tick++) {
            house.tick(3);
            if (tick < 29) {
                due("told", house.told(tick, 0, 3), true);
            }
        }
        due("fault 0", house.can(0), 1);
        due("push 1 fails", house.can(1), 1);
        due("push 2 fails", house.can(2), 1);
        due("sight 1 fails", house.can(3), 0);
        due("sight 2 fails", house.can(4), 1);
        due("at 2", house.canBe(1), 1);
        due("at 3 with a failing push", house.guess(0, true), 2);
        due("told", house.told(30, 1, 4), true);
        due("only push 1", house.named(), 1);
        due("told of the last tick but one", house.told(29, 1, 0), true);
        due("nothing is left", house.named(), -3);
        due("told of the last tick", house.told(30, 0, 0), true);
        due("all are told", house.told(30, 0, 0), false);
        due("known", house.known(30), 0);
        due("known before", house.known(29), 1);
    }
}
