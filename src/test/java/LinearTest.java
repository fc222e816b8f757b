/** Promises 24 to 28: ranks, forms, gains, roots within the circle. */
public final class LinearTest {
    private static final String CART = "state x -3 to 3; state y -3 to 3; push u -2 to 2; x = x + y; y = y + u; sight s = x";

    public static void main(String[] args) {
        absent();
        linearOrNot();
        ranks();
        forms();
        places();
        placeRefusals();
        fractions();
        allSmallPolynomials();
        largePolynomials();
        staysRefusals();
        Checks.end("LinearTest");
    }

    private static void due(String what, long got, long want) {
        Checks.due(what, got, want);
    }

    private static void absent() {
        SteeringHouse house = new SteeringHouse();
        due("rank", house.rank(true), -1);
        due("trouble", house.trouble(), 1);
        due("form", house.form(0), Checks.NO_VALUE);
        due("trouble", house.trouble(), 1);
        due("place", house.place(0, 0, 0), -1);
        due("trouble", house.trouble(), 1);
        due("gain", house.gain(0, false), Checks.NO_GAIN);
        due("stays needs no thing", house.stays(1, 2, 0, 0), 1);
        due("trouble", house.trouble(), 0);
    }

    private static void linear(String text, int want) {
        SteeringHouse house = Checks.house(text);
        due("linear: " + text, house.count(10), want);
        due("rank: " + text, house.rank(true) >= 0 ? 1 : 0, want);
        due("trouble: " + text, house.trouble(), want == 1 ? 0 : 5);
        due("form: " + text, house.form(0) == Checks.NO_VALUE ? 0 : 1, want);
        due("trouble: " + text, house.trouble(), want == 1 ? 0 : 5);
    }

    private static void linearOrNot() {
        String all = "state x 0 to 1; state y 0 to 1; push u 0 to 1; world w 0 to 1; num k 3 to 4; ";
        linear("state x 0 to 1", 1);
        linear(all + "x = 3 * x - y * 2 + u - w + 999 * 999 + k", 1);
        linear(all + "x = x if x = 1", 0);
        linear(all + "x = x; y = y", 1);
        linear(all + "x = x; x = x", 0);
        linear(all + "x = x * x", 0);
        linear(all + "x = x * u", 0);
        linear(all + "x = u * w", 0);
        linear(all + "x = x * 0 * y", 0);
        linear(all + "x = 20 * x", 1);
        linear(all + "x = - 20 * x - 20 * u; sight s = - 20 * y", 1);
        linear(all + "x = 21 * x", 0);
        linear(all + "x = - 21 * w", 0);
        linear(all + "x = 21 * u", 0);
        linear(all + "x = 12 * x + 12 * x", 0);
        linear(all + "x = 12 * x - 12 * x", 1);
        linear(all + "x = 21 * x - 10 * x", 0);
        linear(all + "x = 12 * u + 9 * u", 0);
        linear(all + "x = 12 * w + 9 * w", 1);
        linear(all + "x = k * k * x", 1);
        linear(all + "x = k * k * k * x", 0);
        linear(all + "x = 999 * 999 * 999 * x * 0", 1);
        linear(all + "sight s = x * y", 0);
        linear(all + "sight s = 21 * x", 0);
        linear(all + "sight s = 11 * x + 10 * x", 0);
        linear(all + "sight s = 11 * u + 10 * u", 1);
        linear(all + "sight s = x + y * 20 + k * k", 1);
    }

    private static void ranks() {
        SteeringHouse cart = Checks.house(CART);
        due("can push", cart.rank(false), 2);
        due("can see", cart.rank(true), 2);
        due("not seen", Checks.house(CART.replace("s = x", "s = y")).rank(true), 1);
        due("nothing seen", Checks.house(CART.replace("s = x", "s = u + 3")).rank(true), 0);
        due("no sight", Checks.house("state x 0 to 1").rank(true), 0);
        due("no push", Checks.house("state x 0 to 1").rank(false), 0);
        String three = "state x 0 to 1; state y 0 to 1; state z 0 to 1; push u 0 to 1; push v 0 to 1; ";
        due("chain", Checks.house(three + "x = y; y = z; z = u").rank(false), 3);
        due("chain from the second push", Checks.house(three + "x = y; y = z; z = v").rank(false), 3);
        due("other two of three", Checks.house(three + "x = x + u; z = z + v").rank(false), 2);
        due("the last two of three", Checks.house(three + "y = y + u; z = z + v").rank(false), 2);
        due("chain from its middle", Checks.house(three + "x = y; y = u; z = z").rank(false), 2);
        due("twice the same", Checks.house(three + "x = u; y = u; z = u").rank(false), 1);
        due("by both", Checks.house(three + "x = x + u; y = y + v; z = x").rank(false), 3);
        due("by both, not all", Checks.house(three + "x = x + u; y = y + v").rank(false), 2);
        due("a state that stays", Checks.house(three + "x = y; y = z; z = u; sight s = x").rank(true), 3);
        due("two sights", Checks.house(three + "sight s = x; sight r = y + z").rank(true), 2);
        due("one sight of states that stay", Checks.house(three + "sight s = x + y + z").rank(true), 1);
        due("large numbers", Checks.house(three + "x = 20 * x + 19 * y + 18 * z + 20 * u; y = 17 * x - 16 * y + 15 * z "
                + "- 19 * u; z = 14 * x + 13 * y - 12 * z + 18 * u").rank(false), 3);
    }

    private static void forms() {
        SteeringHouse cart = Checks.house(CART);
        due("power 0", cart.form(0), 1);
        due("power 1", cart.form(1), -2);
        due("power 2", cart.form(2), 1);
        due("power 3", cart.form(3), Checks.NO_VALUE);
        due("trouble", cart.trouble(), 2);
        due("power -1", cart.form(-1), Checks.NO_VALUE);
        due("trouble", cart.trouble(), 2);
        SteeringHouse three = Checks.house("state x 0 to 1; state y 0 to 1; state z 0 to 1; x = 2 * x - y; "
                + "y = 3 * z + x; z = 5 * y - 4 * z + x");
        due("power 3", three.form(3), 1);
        due("power 2: less the trace", three.form(2), 2);
        due("power 1", three.form(1), 2 * 0 + 1 + 2 * -4 + (0 * -4 - 3 * 5));
        due("power 0: less the determinant", three.form(0), -(2 * (0 * -4 - 15) + (1 * -4 - 3 * 1)));
        SteeringHouse one = Checks.house("state x 0 to 1; num k -7 to 3; x = k * x");
        due("nums at the least", one.form(0), 7);
        due("a thing that isn't linear, and a power that isn't",
                Checks.house("state x 0 to 1; x = x * x").form(2), Checks.NO_VALUE);
    }

    private static void places() {
        SteeringHouse cart = Checks.house(CART);
        due("place", cart.place(0, 0, 12345), 2);
        due("gain 0", cart.gain(0, false), -1);
        due("gain 1", cart.gain(1, false), -2);
        due("gain 0, below", cart.gain(0, true), 1);
        due("gain 2", cart.gain(2, false), Checks.NO_GAIN);
        due("gain -1", cart.gain(-1, true), Checks.NO_GAIN);
        due("place refused", cart.place(0, 1000, 0), -1);
        due("gains stay", cart.gain(1, false), -2);
        Checks.thing(cart, "state x 0 to 1; push u 0 to 1; x = x + 3 * u");
        due("gains stay with a new thing", cart.gain(1, false), -2);
        due("place", cart.place(-999, 0, 0), 1);
        due("1 + 3 g = 999", cart.gain(0, false), 998);
        due("1 + 3 g = 999", cart.gain(0, true), 3);
        due("fewer gains now", cart.gain(1, true), Checks.NO_GAIN);
    }

    private static void placeRefusals() {
        SteeringHouse cart = Checks.house(CART);
        due("zero too far", cart.place(1000, 0, 0), -1);
        due("trouble", cart.trouble(), 2);
        due("one too far", cart.place(0, -1000, 0), -1);
        due("trouble", cart.trouble(), 2);
        due("at the ends", cart.place(999, -999, 0), 2);
        due("trouble", cart.trouble(), 0);
        String three = "state x 0 to 1; state y 0 to 1; state z 0 to 1; push u 0 to 1; ";
        SteeringHouse chain = Checks.house(three + "x = y; y = z; z = u");
        due("two too far", chain.place(0, 0, -2147483648), -1);
        due("trouble", chain.trouble(), 2);
        due("full", chain.place(1, 2, 3), 3);
        due("gains are the factors, turned", chain.gain(2, false), -3);
        SteeringHouse poor = Checks.house(three + "x = y; y = u");
        due("not full", poor.place(0, 0, 0), -1);
        due("trouble", poor.trouble(), 5);
        due("number before that", poor.place(0, 0, 1000), -1);
        due("trouble", poor.trouble(), 2);
        SteeringHouse two = Checks.house("state x 0 to 1; push u 0 to 1; push v 0 to 1; x = u + v");
        due("two pushes", two.place(0, 0, 0), -1);
        due("trouble", two.trouble(), 5);
        SteeringHouse none = Checks.house("state x 0 to 1");
        due("no push", none.place(0, 0, 0), -1);
        due("trouble", none.trouble(), 5);
        SteeringHouse bent = Checks.house("state x 0 to 1; push u 0 to 1; x = x * x + u");
        due("not linear", bent.place(0, 0, 0), -1);
        due("trouble", bent.trouble(), 5);
    }

    private static void fractions() {
        SteeringHouse house = Checks.house("state x 0 to 1; state y 0 to 1; push u 0 to 1; x = x + 2 * y + 4 * u; "
                + "y = 3 * x - y + 6 * u");
        due("place", house.place(5, 7, 0), 2);
        Naive naive = new Naive();
        String text = "state x 0 to 1; state y 0 to 1; push u 0 to 1; x = x + 2 * y + 4 * u; y = 3 * x - y + 6 * u";
        naive.tape.append(text);
        naive.thing(text.length());
        long[] tops = {house.gain(0, false), house.gain(1, false)};
        long[] bottoms = {house.gain(0, true), house.gain(1, true)};
        Checks.due("exact and in lowest terms", naive.placesAsTold(new int[] {5, 7}, tops, bottoms), true);
        due("a fraction", bottoms[0] > 1 || bottoms[1] > 1 ? 1 : 0, 1);
        String large = "state x 0 to 1; state y 0 to 1; state z 0 to 1; push u 0 to 1; x = 20 * x + 19 * y + 18 * z + 20 * u; "
                + "y = 17 * x - 16 * y + 15 * z - 19 * u; z = 14 * x + 13 * y - 12 * z + 18 * u";
        SteeringHouse far = Checks.house(large);
        naive.tape.append(large);
        naive.thing(large.length());
        due("place of large numbers", far.place(-999, 999, -998), 3);
        Checks.due("exact", naive.placesAsTold(new int[] {-999, 999, -998},
                new long[] {far.gain(0, false), far.gain(1, false), far.gain(2, false)},
                new long[] {far.gain(0, true), far.gain(1, true), far.gain(2, true)}), true);
    }

    private static void allSmallPolynomials() {
        for (int a = -7; a <= 7; a++) {
            for (int b = -7; b <= 7; b++) {
                SteeringHouse house = new SteeringHouse();
                for (int c = -7; c <= 7; c++) {
                    for (int d = -7; d <= 7; d++) {
                        boolean none = a == 0 && b == 0 && c == 0 && d == 0;
                        int want = none ? -1 : Naive.within(new long[] {a, b, c, d}) ? 1 : 0;
                        due("stays " + a + " " + b + " " + c + " " + d, house.stays(a, b, c, d), want);
                    }
                }
            }
        }
    }

    private static void largePolynomials() {
        SteeringHouse house = new SteeringHouse();
        java.util.Random random = new java.util.Random(5);
        for (int i = 0; i < 20000; i++) {
            house = i % 500 == 0 ? new SteeringHouse() : house;
            long[] p = new long[4];
            for (int k = 0; k < 4; k++) {
                p[k] = random.nextInt(1999 / (k == 3 ? 1 : 1 + random.nextInt(4))) - 999 / 2;
            }
            p[3] = i % 3 == 0 ? 999 : p[3];
            if (p[0] == 0 && p[1] == 0 && p[2] == 0 && p[3] == 0) {
                continue;
            }
            boolean far = false;
            for (long each : p) {
                far |= Math.abs(each) > 999;
            }
            due("stays of large ones", house.stays((int) p[0], (int) p[1], (int) p[2], (int) p[3]),
                    far ? -1 : Naive.within(p) ? 1 : 0);
        }
        house = new SteeringHouse();
        due("just within", house.stays(-998, 0, 0, 999), 1);
        due("on the circle", house.stays(-999, 0, 0, 999), 0);
        due("on the circle, two powers", house.stays(1, 0, 1, 0), 0);
        due("a number has no roots", house.stays(-5, 0, 0, 0), 1);
        due("roots at 0", house.stays(0, 0, 0, 1), 1);
    }

    private static void staysRefusals() {
        SteeringHouse house = new SteeringHouse();
        due("all 0", house.stays(0, 0, 0, 0), -1);
        due("trouble", house.trouble(), 2);
        due("1000", house.stays(1000, 0, 0, 1), -1);
        due("-1000", house.stays(0, -1000, 0, 1), -1);
        due("most", house.stays(0, 0, 2147483647, 1), -1);
        due("least", house.stays(0, 0, 1, -2147483648), -1);
        due("trouble", house.trouble(), 2);
        due("at the ends", house.stays(-999, 999, -999, 999), 0);
        due("trouble", house.trouble(), 0);
    }
}
