/** Promises 7, 8 and 46: which calls tell a trouble, which leave it as it was, and where a fault is. */
public final class TroubleTest {
    public static void main(String[] args) {
        refusingCallsClearIt();
        otherCallsLeaveIt();
        everyNumber();
        faultAndWhere();
        Checks.end("TroubleTest");
    }

    private static void due(String what, long got, long want) {
        Checks.due(what, got, want);
    }

    /** A house with everything in it, whose latest trouble is 2. */
    private static SteeringHouse troubled() {
        SteeringHouse house = Checks.house("state x 0 to 4; push u -1 to 1; num k 0 to 1; sight s = x; x = x + u");
        Checks.good(house, "x < 5");
        Checks.goal(house, "x = 4");
        Checks.cost(house, "x");
        house.tick(1);
        house.claim(4, 0);
        house.stays(0, 0, 0, 0);
        due("trouble 2", house.trouble(), 2);
        return house;
    }

    private static void cleared(String call, SteeringHouse house) {
        due("trouble after " + call, house.trouble(), 0);
        due("where after " + call, house.where(), -1);
        house.stays(0, 0, 0, 0);
    }

    static void refusingCallsClearIt() {
        SteeringHouse house = troubled();
        house.next(0, 0, 0);
        cleared("next", house);
        house.safe();
        cleared("safe", house);
        house.best(0, 1);
        cleared("best", house);
        house.bestLaw(0, 1);
        cleared("bestLaw", house);
        house.rank(true);
        cleared("rank", house);
        house.form(0);
        cleared("form", house);
        house.place(0, 0, 0);
        cleared("place", house);
        house.stays(1, 0, 0, 0);
        cleared("stays", house);
        house.tick(1);
        cleared("tick", house);
        house.told(1, 0, 3);
        cleared("told", house);
        house.can(0);
        cleared("can", house);
        house.named();
        cleared("named", house);
        house.fit();
        cleared("fit", house);
        house.probe(1);
        cleared("probe", house);
        house.anew();
        cleared("anew", house);
        house.code(0, 0, 0, 0, 0);
        cleared("code", house);
        house.coded(0);
        cleared("coded", house);
        house.strays();
        cleared("strays", house);
        house.walk(0);
        cleared("walk", house);
        house.claim(0, 4);
        cleared("claim", house);
        house.proved(0);
        cleared("proved", house);
        house.breaks();
        cleared("breaks", house);
        Checks.cost(house, "u");
        cleared("cost", house);
        Checks.goal(house, "x = 1");
        cleared("goal", house);
        Checks.good(house, "x < 3");
        cleared("good", house);
        Checks.thing(house, "state x 0 to 1");
        cleared("thing", house);
    }

    private static void kept(String call, SteeringHouse house) {
        due("trouble after " + call, house.trouble(), 2);
    }

    private static void otherCallsLeaveIt() {
        SteeringHouse house = troubled();
        for (int at : new int[] {0, -7, 99}) {
            house.feed(0, 0, 0, 0, 0);
            kept("feed", house);
            house.fault();
            house.where();
            kept("fault, where", house);
            house.count(at);
            kept("count", house);
            house.cell(at, 0, 0);
            kept("cell", house);
            house.state(at, 0);
            kept("state", house);
            house.push(at, 0);
            kept("push", house);
            house.sight(at, 0, 0, 0);
            kept("sight", house);
            house.layer(at);
            kept("layer", house);
            house.allowed(at);
            kept("allowed", house);
            house.ticks(at);
            kept("ticks", house);
            house.law(at);
            kept("law", house);
            house.margin(at);
            kept("margin", house);
            house.gain(at, true);
            kept("gain", house);
            house.canBe(at);
            kept("canBe", house);
            house.guess(at, true);
            kept("guess", house);
            house.known(at);
            kept("known", house);
            house.trouble();
            kept("trouble", house);
            try {
                house.worst(at, 1, 0);
            } catch (java.util.NoSuchElementException none) {
                due("worst of " + at + " throws", at == 0 ? 0 : 1, 1);
            }
            kept("worst", house);
        }
        for (int i = 0; i < 25; i++) {
            house.feed(0, 0, 0, 0, 0);
        }
        kept("feed beyond 400", house);
    }

    private static void everyNumber() {
        SteeringHouse house = new SteeringHouse();
        house.safe();
        due("no thing", house.trouble(), 1);
        house.thing(1);
        due("a number", house.trouble(), 2);
        house.thing(0);
        due("a fault", house.trouble(), 4);
        Checks.thing(house, "state x 0 to 1; x = x * x");
        due("none", house.trouble(), 0);
        house.rank(true);
        due("not so", house.trouble(), 5);
        for (int i = 0; i < 31; i++) {
            house.tick(0);
        }
        due("no room", house.trouble(), 3);
    }

    private static void faultAndWhere() {
        SteeringHouse house = new SteeringHouse();
        Checks.thing(house, "state x 0 to 1; y = 1");
        due("fault", house.fault(), 2);
        due("where", house.where(), 16);
        house.count(5);
        due("where, after a call that isn't refused", house.where(), 16);
        house.safe();
        due("where, after one that is, by 1", house.where(), -1);
        due("fault is still the latest", house.fault(), 2);
        house.good(3);
        due("good refused by 1 changes no fault", house.fault(), 2);
        house.thing(3);
        due("thing refused by 2 changes no fault", house.fault(), 2);
        Checks.thing(house, "state x 0 to 1");
        due("fine", house.fault(), 0);
        Checks.good(house, "x");
        due("fault of good", house.fault(), 1);
        due("where", house.where(), 1);
        Checks.goal(house, "x = y");
        due("fault of goal", house.fault(), 2);
        due("where", house.where(), 4);
        Checks.cost(house, "x x");
        due("fault of cost", house.fault(), 1);
        due("where", house.where(), 2);
        Checks.cost(house, "x");
        due("cost is fine", house.fault(), 0);
        due("where", house.where(), -1);
    }
}
