/** Promises 39 to 45: a law in short numbers, its walk, claims and what they prove. */
public final class ProofsTest {
    private static final String LINE = "state x 0 to 4; push u -1 to 1; x = x + u";

    public static void main(String[] args) {
        absent();
        codes();
        rounding();
        strayCells();
        walks();
        claims();
        proofs();
        breaks();
        Checks.end("ProofsTest");
    }

    private static void due(String what, long got, long want) {
        Checks.due(what, got, want);
    }

    private static void due(String what, boolean got, boolean want) {
        Checks.due(what, got, want);
    }

    private static void absent() {
        SteeringHouse house = new SteeringHouse();
        due("code", house.code(0, 0, 0, 0, 9), false);
        due("trouble", house.trouble(), 1);
        due("coded", house.coded(0), -1);
        due("strays", house.strays(), -1);
        due("walk", house.walk(0), -1);
        due("claim", house.claim(0, 0), false);
        due("proved", house.proved(0), -1);
        due("breaks", house.breaks(), -1);
        due("trouble", house.trouble(), 1);
        for (String text : new String[] {"state x 0 to 1", "state x 0 to 1; push u 0 to 1; push v 0 to 1"}) {
            SteeringHouse other = Checks.house(text);
            due("code not of one push", other.code(0, 0, 0, 0, 9), false);
            due("trouble", other.trouble(), 5);
            due("coded", other.coded(0), -1);
            due("trouble", other.trouble(), 5);
            due("coded of no cell", other.coded(2), -1);
            due("trouble", other.trouble(), 1);
            due("strays", other.strays(), -1);
            due("trouble", other.trouble(), 5);
            due("walk", other.walk(0), -1);
            due("trouble", other.trouble(), 5);
            due("walk of no cell", other.walk(-1), -1);
            due("trouble", other.trouble(), 1);
        }
    }

    private static void codes() {
        SteeringHouse house = Checks.house("state x -2 to 2; state y 0 to 3; push u -4 to 4; x = x");
        due("0 until told", house.coded(0), 4);
        due("trouble", house.trouble(), 0);
        due("code", house.code(2, -1, 99, 1, 0), true);
        due("trouble", house.trouble(), 0);
        due("2 * 1 - 2 + 1", house.coded(house.cell(1, 2, 0)), 5);
        due("brought into the span above", house.coded(house.cell(2, 0, 0)), 8);
        due("brought into the span below", house.coded(house.cell(-2, 3, 0)), 0);
        int[][] wrong = {{-129, 0, 0, 0, 0}, {128, 0, 0, 0, 0}, {0, 128, 0, 0, 0}, {0, 0, -129, 0, 0}, {0, 0, 0, 128, 0},
            {0, 0, 0, -129, 0}, {0, 0, 0, 0, -1}, {0, 0, 0, 0, 8}, {2147483647, -2147483648, 0, 0, 0}};
        for (int[] each : wrong) {
            due("code", house.code(each[0], each[1], each[2], each[3], each[4]), false);
            due("trouble", house.trouble(), 2);
        }
        due("code stays", house.coded(house.cell(1, 2, 0)), 5);
        due("at the ends", house.code(-128, 127, -128, 127, 7), true);
        due("no cell", house.coded(20), -1);
        due("trouble", house.trouble(), 1);
    }

    private static void rounding() {
        SteeringHouse house = Checks.house("state x -9 to 9; push u -4 to 4; x = x");
        house.code(1, 0, 0, 0, 1);
        int[] want = {-4, -4, -3, -3, -2, -2, -1, -1, 0, 0, 1, 1, 2, 2, 3, 3, 4, 4, 4};
        for (int x = -9; x <= 9; x++) {
            due("half of " + x, house.push(house.coded(x + 9), 0), want[x + 9]);
        }
        house.code(3, 0, 0, -1, 2);
        due("(3 * 3 - 1 + 2) / 4", house.push(house.coded(12), 0), 2);
        due("(- 9 - 1 + 2) / 4", house.push(house.coded(6), 0), -2);
        house.code(0, 0, 0, -65, 7);
        due("-65 / 128", house.push(house.coded(0), 0), -1);
        house.code(0, 0, 0, -64, 7);
        due("-64 / 128", house.push(house.coded(0), 0), 0);
    }

    private static void strayCells() {
        SteeringHouse house = Checks.house(LINE);
        due("staying is allowed", house.strays(), 0);
        house.code(0, 0, 0, 1, 0);
        due("up everywhere", house.strays(), 1);
        Checks.good(house, "x < 2");
        due("up from the last good one", house.strays(), 1);
        Checks.good(house, "x > 9");
        due("nothing is safe", house.strays(), 0);
        SteeringHouse blown = Checks.house("state x -3 to 3; push u -1 to 1; world w -1 to 1; x = x + u + w");
        due("at both ends", blown.strays(), 2);
        blown.code(-1, 0, 0, 0, 1);
        due("back", blown.strays(), 0);
        due("trouble", blown.trouble(), 0);
    }

    private static void walks() {
        SteeringHouse house = Checks.house(LINE);
        due("it stays", house.walk(2), 1);
        house.code(0, 0, 0, 1, 0);
        due("it goes out", house.walk(0), -2);
        SteeringHouse ring = Checks.house("state x 0 to 6; push u 0 to 1; x = x + u if x < 6; x = 2");
        ring.code(0, 0, 0, 1, 0);
        due("into a round of five", ring.walk(0), 5);
        due("from within it", ring.walk(4), 5);
        SteeringHouse least = Checks.house("state x 0 to 9; push u 0 to 1; world w 2 to 3; num k 1 to 4; "
                + "x = x + w * k if x < 8; x = 0");
        due("worlds and nums at their least", least.walk(1), 5);
        due("no cell", least.walk(10), -1);
        due("trouble", least.trouble(), 1);
        SteeringHouse longest = Checks.house("state x 0 to 19; state y 0 to 19; push u 0 to 0; y = y + 1 if y < 19; y = 0; "
                + "x = x + 1 if y = 19 and x < 19; x = 0 if y = 19");
        due("through all cells", longest.walk(7), 400);
    }

    private static void claims() {
        SteeringHouse house = Checks.house(LINE);
        due("no cell", house.claim(5, 0), false);
        due("trouble", house.trouble(), 1);
        due("no cell, and no number", house.claim(-1, 9999), false);
        due("trouble", house.trouble(), 1);
        due("1000", house.claim(0, 1000), false);
        due("trouble", house.trouble(), 2);
        due("-2", house.claim(0, -2), false);
        due("trouble", house.trouble(), 2);
        due("999", house.claim(0, 999), true);
        due("0", house.claim(1, 0), true);
        due("again", house.claim(1, 3), true);
        due("two claims", house.count(13), 2);
        due("no more", house.claim(1, -1), true);
        due("one claim", house.count(13), 1);
        due("none there was", house.claim(2, -1), true);
        due("one claim", house.count(13), 1);
        due("trouble", house.trouble(), 0);
    }

    private static void proofs() {
        SteeringHouse house = Checks.house(LINE);
        Checks.goal(house, "x = 4");
        house.claim(4, 0);
        house.claim(3, 5);
        due("a claim may be more than it takes", house.proved(3), 1);
        due("at the goal", house.proved(4), 1);
        due("not claimed", house.proved(2), 0);
        due("no cell", house.proved(5), -1);
        due("trouble", house.trouble(), 1);
        house.claim(2, 5);
        due("not less", house.proved(2), 0);
        due("nor another while one fails", house.proved(3), 0);
        house.claim(2, 6);
        due("less now", house.proved(2), 1);
        Checks.goal(house, "x = 3");
        due("by another goal", house.proved(3), 0);
        Checks.goal(house, "x = 4");
        Checks.good(house, "x > 2");
        due("a claim of a cell that isn't good", house.proved(3), 0);
        house.claim(2, -1);
        due("without it", house.proved(3), 1);
        due("trouble", house.trouble(), 0);
    }

    private static void breaks() {
        SteeringHouse house = Checks.house("state x 0 to 4; push u -1 to 1; world w 0 to 1; x = x + u + w if x + u + w < 5 "
                + "and x + u + w > - 1");
        due("no claim breaks nothing", house.breaks(), -2);
        due("trouble", house.trouble(), 0);
        house.claim(4, 0);
        due("no goal", house.breaks(), 4);
        Checks.goal(house, "x = 4");
        due("the goal", house.breaks(), -2);
        house.claim(3, 1);
        due("up by one at least, two at most stays", house.breaks(), 3);
        house.claim(3, -1);
        house.claim(2, 2);
        due("not claimed between", house.breaks(), 2);
        house.claim(1, 7);
        due("the least that fails", house.breaks(), 1);
        SteeringHouse sure = Checks.house("state x 0 to 4; push u 0 to 1; world w 0 to 1; x = 4 if x + u + w > 3; "
                + "x = x + u + w");
        Checks.goal(sure, "x = 4");
        for (int cell = 0; cell < 5; cell++) {
            sure.claim(cell, sure.ticks(cell));
        }
        due("ticks are claims that stand", sure.breaks(), -2);
        due("so all is proved", sure.proved(0), 1);
        sure.claim(0, 999);
        due("more is as good", sure.breaks(), -2);
        sure.claim(2, 1);
        due("less isn't", sure.breaks(), 2);
        SteeringHouse first = Checks.house(LINE);
        Checks.goal(first, "x = 0");
        first.claim(0, 0);
        first.claim(1, 1);
        due("to cell 0 by PUSH 0", first.breaks(), -2);
        SteeringHouse zero = Checks.house(LINE);
        Checks.goal(zero, "x = 1");
        zero.claim(1, 0);
        zero.claim(0, 0);
        due("0 claimed beside the goal", zero.breaks(), 0);
        zero.claim(0, -1);
        zero.claim(1, 3);
        due("the goal claimed with 3 has to go on", zero.breaks(), 1);
    }
}
