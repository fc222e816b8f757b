import java.math.BigInteger;

/** Terms III and promises 24 to 28, sentence by sentence, at their edges: ranks, forms, gains, roots. */
final class LinearEdges {
    private static final int LEAST = Checks.LEAST;
    private static final int MOST = Checks.MOST;
    private static final String ALL = "state x 0 to 1; state y 0 to 1; push u 0 to 1; world w 0 to 1; num k 3 to 4; ";
    private static final String THREE = "state x 0 to 1; state y 0 to 1; state z 0 to 1; push u 0 to 1; ";
    private static final String CHAIN = THREE + "x = y; y = z; z = u";
    private static final String BENT = "state x 0 to 1; push u 0 to 1; x = x * x + u";

    private LinearEdges() {
    }

    static void all() {
        steps();
        terms();
        within();
        sums();
        ranks();
        forms();
        places();
        roots();
        rankCall();
        formCall();
        placeCall();
        gainCall();
        staysCall();
    }

    private static void of(String part, String words) {
        Checks.of(part, words);
    }

    private static void due(String what, long got, long want) {
        Checks.due(what, got, want);
    }

    private static void linear(String text, int want) {
        due("LINEAR: " + text, Checks.house(text).count(10), want);
    }

    private static void steps() {
        of("III", "LINEAR: no STEP has a TEST,");
        linear(ALL + "x = x", 1);
        linear(ALL + "x = x if 0 < 1", 0);
        linear(ALL + "x = x; y = 1 if 1 < 0", 0);

        of("III", "each state has at most one STEP,");
        linear(ALL + "x = y; y = x", 1);
        linear("state x 0 to 1", 1);
        linear(ALL + "x = y; x = y", 0);
        linear(THREE + "x = y; y = x; z = z", 1);
        linear(THREE + "x = y; y = x; z = z; z = z", 0);
    }

    private static void terms() {
        of("III", "each TERM of STEPS and sights has at most one NAME of a state, push or world (nums as they like),");
        linear(ALL + "x = 5 + k * k * k", 1);
        linear(ALL + "x = x * k + k * u + w", 1);
        linear(ALL + "x = x * x", 0);
        linear(ALL + "x = x * y", 0);
        linear(ALL + "x = u * u", 0);
        linear(ALL + "x = x * w", 0);
        linear(ALL + "x = w * w", 0);
        linear(ALL + "x = w * 3 * u", 0);
        linear(ALL + "x = 0 * x * y", 0);
        linear(ALL + "sight s = x * u", 0);
        linear(ALL + "sight s = w * w", 0);
        linear(ALL + "sight s = x + y - u + w + k * k", 1);
        linear(ALL + "sight s = x; sight r = y * y", 0);
        linear(ALL + "x = 1 + 2 + y * y", 0);
        linear(ALL + "x = y * y + 1 + 2", 0);
    }

    private static void within() {
        of("III", "and if it has one, what stands with that NAME (nums at the least) is within -20 .. 20;");
        for (String name : new String[] {"x", "y", "u", "w"}) {
            linear(ALL + "x = 20 * " + name, 1);
            linear(ALL + "x = 21 * " + name, 0);
            linear(ALL + "x = - 20 * " + name, 1);
            linear(ALL + "x = - 21 * " + name, 0);
            linear(ALL + "x = " + name + " * 4 * 5", 1);
            linear(ALL + "x = 3 * " + name + " * 7", 0);
            linear(ALL + "sight s = 20 * " + name, 1);
            linear(ALL + "sight s = 21 * " + name, 0);
        }
        linear(ALL + "x = 21 * x - x", 0);
        linear(ALL + "x = 21 * x - 21 * x", 0);
        linear(ALL + "x = 6 * k * x", 1);
        linear(ALL + "x = 7 * k * x", 0);
        linear("state x 0 to 1; num k -20 to -19; x = k * x", 1);
        linear("state x 0 to 1; num k -7 to 1; x = 3 * k * x", 0);
        linear("state x 0 to 1; num k 0 to 1; x = 999 * k * x", 1);
        linear(ALL + "x = 999 * 999 * 999 * 0 * x", 1);
        linear(ALL + "x = 999 * 999 * 999", 1);
        linear(ALL + "x = 999 * 999 * 999 * x", 0);
    }

    private static void sums() {
        of("III", "A, B, C are the sums of these for states in STEPS (a state without a STEP: itself, once), for "
                + "pushes in them, and for states in sights;");
        SteeringHouse house = Checks.house("state x 0 to 1; state y 0 to 1; push u 0 to 1; "
                + "x = 2 * x + 3 * y - x + 5 * u - 4 * u; sight s = y - x + x - 2 * y + u");
        due("a trace of 1 and 1", house.form(1), -2);
        due("a determinant of 1", house.form(0), 1);
        due("a state without a STEP stays", Checks.house("state x 0 to 1").form(0), -1);
        due("B is 1, 0", house.rank(false), 1);
        due("C is 0, -1: of A's rows only y, that stays", house.rank(true), 1);
        due("a STEP without it", Checks.house("state x 0 to 1; x = 1").form(0), 0);
        SteeringHouse anew = Checks.house(ALL + "sight s = x; sight r = y");
        due("two rows of C", anew.rank(true), 2);
        Checks.thing(anew, ALL + "sight s = x + y; sight r = 2 * x + 2 * y");
        due("C of the new THING alone", anew.rank(true), 1);

        of("III", "all of them are within -20 .. 20, too.");
        linear(ALL + "x = 10 * x + 10 * x", 1);
        linear(ALL + "x = 10 * x + 11 * x", 0);
        linear(ALL + "x = - 10 * x - 10 * x", 1);
        linear(ALL + "x = - 10 * x - 11 * x", 0);
        linear(ALL + "y = 10 * x + 11 * x", 0);
        linear(ALL + "x = 20 * x + 20 * x - 20 * x", 1);
        linear(ALL + "x = 10 * u + 10 * u", 1);
        linear(ALL + "y = 10 * u + 11 * u", 0);
        linear(ALL + "x = 10 * w + 11 * w", 1);
        linear(ALL + "sight s = 10 * x + 10 * x", 1);
        linear(ALL + "sight s = x; sight r = - 10 * y - 11 * y", 0);
        linear(ALL + "sight s = 10 * u + 11 * u", 1);
    }

    private static void ranks() {
        of("III", "CAN PUSH: the rank of B, A B, A A B (as many as there are states);");
        due("no push", Checks.house("state x 0 to 1").rank(false), 0);
        due("a push that is in no STEP", Checks.house("state x 0 to 1; push u 0 to 1; x = x").rank(false), 0);
        due("one state, one push", Checks.house("state x 0 to 1; push u 0 to 1; x = u").rank(false), 1);
        due("two states by B and A B", Checks.house(ALL + "x = y; y = u").rank(false), 2);
        due("two states, B alone", Checks.house(ALL + "x = x + u; y = y").rank(false), 1);
        due("three states by A A B", Checks.house(CHAIN).rank(false), 3);
        due("three states, B and A B alone", Checks.house(THREE + "x = 0; y = z; z = u").rank(false), 2);
        due("two pushes, all by B", Checks.house("state x 0 to 1; state y 0 to 1; push u 0 to 1; push v 0 to 1; "
                + "x = u; y = v")
                .rank(false), 2);
        due("large numbers that nearly cancel", Checks.house(THREE + "x = 20 * x + 20 * y + 20 * z + 20 * u; "
                + "y = 20 * x + 20 * y + 19 * z + 20 * u; z = 20 * x + 20 * y + 20 * z + 19 * u").rank(false), 3);
        due("large numbers that cancel", Checks.house(THREE + "x = 20 * x + 20 * y + 20 * z + 20 * u; "
                + "y = 20 * x + 20 * y + 20 * z + 20 * u; z = 20 * x + 20 * y + 20 * z + 20 * u").rank(false), 1);

        String both = THREE + "push v 0 to 1; ";
        due("three states by A A B of the second push", Checks.house(both + "x = y; y = z; z = v").rank(false), 3);
        due("of the first push", Checks.house(both + "x = y; y = z; z = u").rank(false), 3);
        due("the first in none, the second in two", Checks.house(both + "x = y; y = v; z = 0").rank(false), 2);
        due("two of three: x, y", Checks.house(both + "x = u; y = v; z = 0").rank(false), 2);
        due("two of three: x, z", Checks.house(both + "x = u; y = 0; z = v").rank(false), 2);
        due("two of three: y, z", Checks.house(both + "x = 0; y = u; z = v").rank(false), 2);
        due("the same column twice", Checks.house(both + "x = u + v; y = u + v; z = u + v").rank(false), 1);
        due("three columns of four", Checks.house(both + "x = x + u; y = y + v; z = x + y").rank(false), 3);

        of("III", "CAN SEE: of C, C A, C A A.");
        due("two sights of three states: x, z", Checks.house(THREE + "x = 0; y = 0; z = 0; "
                + "sight s = x; sight r = z").rank(true), 2);
        due("two sights of three states: y, z", Checks.house(THREE + "x = 0; y = 0; z = 0; "
                + "sight s = y; sight r = z").rank(true), 2);
        due("three by C A of the second", Checks.house(THREE + "x = x; y = z; z = 0; sight s = x; "
                + "sight r = y").rank(true), 3);
        due("no sight", Checks.house("state x 0 to 1").rank(true), 0);
        due("a sight of no state", Checks.house(ALL + "sight s = u + w + k + 3").rank(true), 0);
        due("one state", Checks.house("state x 0 to 1; sight s = x").rank(true), 1);
        due("two states by C and C A", Checks.house(ALL + "x = y; y = 0; sight s = x").rank(true), 2);
        due("the end of it alone", Checks.house(ALL + "x = y; y = 0; sight s = y").rank(true), 1);
        due("three states by C A A", Checks.house(CHAIN + "; sight s = x").rank(true), 3);
        due("three states, from between", Checks.house(CHAIN + "; sight s = y").rank(true), 2);
        due("two sights, all by C", Checks.house(ALL + "x = 0; y = 0; sight s = x; sight r = y").rank(true), 2);
    }

    private static void forms() {
        of("III", "FORM: the polynomial of A: the factor of each power, the highest 1.");
        String[] texts = {"state x 0 to 1; x = 7 * x", ALL + "x = 2 * x + 3 * y; y = 5 * x - 4 * y",
            THREE + "x = 2 * x - y; y = 3 * z + x; z = 5 * y - 4 * z + x", "state x 0 to 1; x = 0",
            THREE + "x = 20 * x; y = 20 * y; z = 20 * z", THREE + "x = - 20 * x; y = - 20 * y; z = - 20 * z",
            THREE + "x = 2 * x + 3 * y + 5 * z; y = 7 * x + 11 * y + 13 * z; z = 17 * x + 19 * y + 20 * z"};
        int[][] want = {{-7, 1}, {-23, 2, 1}, {37, -22, 2, 1}, {0, 1}, {-8000, 1200, -60, 1}, {8000, 1200, 60, 1},
            {2 * (11 * 20 - 13 * 19) * -1 + 3 * (7 * 20 - 13 * 17) - 5 * (7 * 19 - 11 * 17),
                2 * 11 - 3 * 7 + 2 * 20 - 5 * 17 + 11 * 20 - 13 * 19, -33, 1}};
        for (int i = 0; i < texts.length; i++) {
            SteeringHouse house = Checks.house(texts[i]);
            for (int power = 0; power < want[i].length; power++) {
                due("power " + power + " of " + texts[i], house.form(power), want[i][power]);
            }
        }
    }

    private static void places() {
        of("III", "PLACE: with one push and full CAN PUSH (as many as states) the gains, one a state, by which A and "
                + "B times gains together have a told FORM: exact fractions in lowest terms.");
        SteeringHouse one = Checks.house("state x 0 to 1; push u 0 to 1; x = 5 * x + 6 * u");
        due("5 + 6 g = 2, so g = - 1 / 2", one.place(-2, 0, 0), 1);
        due("numerator", one.gain(0, false), -1);
        due("denominator above 0", one.gain(0, true), 2);
        due("5 + 6 g = 5", one.place(-5, 0, 0), 1);
        due("nothing", one.gain(0, false), 0);
        due("of 1", one.gain(0, true), 1);
        SteeringHouse below = Checks.house("state x 0 to 1; push u 0 to 1; x = 5 * x - 6 * u");
        due("5 - 6 g = 2, so g = 1 / 2", below.place(-2, 0, 0), 1);
        due("numerator", below.gain(0, false), 1);
        due("denominator above 0", below.gain(0, true), 2);
        SteeringHouse two = Checks.house(ALL.replace("world w 0 to 1; ", "") + "x = x + y; y = 3 * u");
        due("z z - z - 3 g1 z - 3 (g0 - g1)", two.place(999, -999, 0), 2);
        due("g1 = 998 / 3", two.gain(1, false) * 1000 + two.gain(1, true), 998003);
        due("g0 = - 999 / 3 + 998 / 3 = - 1 / 3", two.gain(0, false) * 1000 + two.gain(0, true), -997);
        SteeringHouse full = Checks.house(THREE + "x = 2 * x + 3 * y + 5 * z + 2 * u; "
                + "y = 7 * x - 11 * y + 13 * z - 3 * u; z = 17 * x + 19 * y - 20 * z + 5 * u");
        due("with no 0 at all", full.place(12, -34, 56), 3);
        long[][] a = {{2, 3, 5}, {7, -11, 13}, {17, 19, -20}};
        Checks.due("exactly", makesForm(a, new long[] {2, -3, 5}, full, new long[] {12, -34, 56}), true);
        SteeringHouse half = Checks.house("state x 0 to 1; state y 0 to 1; push u 0 to 1; x = 2 * x + 3 * y + 2 * u; "
                + "y = 7 * x - 5 * y - 4 * u");
        due("with no 0 at all", half.place(-9, 8, 0), 2);
        long[][] c = {{2, 3}, {7, -5}};
        Checks.due("exactly", makesForm(c, new long[] {2, -4}, half, new long[] {-9, 8}), true);
        SteeringHouse three = Checks.house(CHAIN);
        due("a chain", three.place(-999, 998, 999), 3);
        due("its gains are the factors, turned", three.gain(0, false), 999);
        due("its gains are the factors, turned", three.gain(1, false), -998);
        due("its gains are the factors, turned", three.gain(2, false), -999);
    }

    /** Whether A + B K, by the gains that the house tells, has the wanted factors, and they are in lowest terms. */
    private static boolean makesForm(long[][] a, long[] b, SteeringHouse house, long[] want) {
        int n = b.length;
        BigInteger down = BigInteger.ONE;
        for (int i = 0; i < n; i++) {
            BigInteger top = BigInteger.valueOf(house.gain(i, false));
            BigInteger bottom = BigInteger.valueOf(house.gain(i, true));
            if (bottom.signum() <= 0 || !top.gcd(bottom).equals(BigInteger.ONE)) {
                return false;
            }
            down = down.multiply(bottom);
        }
        BigInteger[][] m = new BigInteger[n][n];
        for (int i = 0; i < n; i++) {
            for (int j = 0; j < n; j++) {
                m[i][j] = BigInteger.valueOf(a[i][j]).multiply(down).add(BigInteger.valueOf(b[i] * house.gain(j, false))
                        .multiply(down.divide(BigInteger.valueOf(house.gain(j, true)))));
            }
        }
        boolean fine = true;
        for (int z = -3; z <= 3; z++) {
            BigInteger polynomial = BigInteger.valueOf(z).pow(n);
            for (int power = 0; power < n; power++) {
                polynomial = polynomial.add(BigInteger.valueOf(want[power]).multiply(BigInteger.valueOf(z).pow(power)));
            }
            BigInteger[][] less = new BigInteger[n][n];
            for (int i = 0; i < n; i++) {
                for (int j = 0; j < n; j++) {
                    less[i][j] = (i == j ? down.multiply(BigInteger.valueOf(z)) : BigInteger.ZERO).subtract(m[i][j]);
                }
            }
            fine &= determinant(less).equals(polynomial.multiply(down.pow(n)));
        }
        return fine;
    }

    private static BigInteger determinant(BigInteger[][] m) {
        if (m.length == 2) {
            return m[0][0].multiply(m[1][1]).subtract(m[0][1].multiply(m[1][0]));
        }
        BigInteger sum = BigInteger.ZERO;
        for (int i = 0; i < 3; i++) {
            BigInteger[][] rest = {{m[1][(i + 1) % 3], m[1][(i + 2) % 3]}, {m[2][(i + 1) % 3], m[2][(i + 2) % 3]}};
            sum = sum.add(m[0][i].multiply(determinant(rest)));
        }
        return sum;
    }

    private static void roots() {
        of("III", "STAYS: whether all roots of a told polynomial lie within the circle of 1, not on it: exactly.");
        SteeringHouse house = new SteeringHouse();
        due("998 / 999", house.stays(-998, 999, 0, 0), 1);
        due("1", house.stays(-999, 999, 0, 0), 0);
        due("-1", house.stays(999, 999, 0, 0), 0);
        due("999 / 998", house.stays(-999, 998, 0, 0), 0);
        due("two on the circle, not real", house.stays(999, 1, 999, 0), 0);
        due("two just within it", house.stays(998, 1, 999, 0), 1);
        due("two just beyond it", house.stays(999, 1, 998, 0), 0);
        due("998 / 999 and -1", house.stays(-998, 1, 999, 0), 0);
        due("three thirds of 998 / 999", house.stays(-998, 0, 0, 999), 1);
        due("three on the circle", house.stays(-999, 0, 0, 999), 0);
        due("two within, one on it: (z - 1) (4 z z - 1)", house.stays(1, -1, -4, 4), 0);
        due("two within, one beyond: (2 z - 1) (2 z + 1) (z - 2)", house.stays(2, -1, -8, 4), 0);
        due("one within, two on it: (2 z - 1) (z z + 1)", house.stays(-1, 2, -1, 2), 0);
        due("thrice 1 / 2", house.stays(-1, 6, -12, 8), 1);
        due("thrice 0", house.stays(0, 0, 0, -7), 1);
        due("9 / 10 and twice 0", house.stays(0, 0, -9, 10), 1);
        due("no root", house.stays(3, 0, 0, 0), 1);
    }

    private static void rankCall() {
        of("24", "CAN PUSH (or CAN SEE).");
        SteeringHouse house = Checks.house(ALL + "x = y; y = u; sight s = y");
        due("CAN PUSH", house.rank(false), 2);
        due("CAN SEE", house.rank(true), 1);
        due("trouble", house.trouble(), 0);

        of("24", "NONE: 1; 5.");
        SteeringHouse none = new SteeringHouse();
        Checks.refused("rank without a THING", none, none.rank(false), 1);
        Checks.refused("rank without a THING", none, none.rank(true), 1);
        SteeringHouse bent = Checks.house(BENT);
        Checks.refused("rank, not LINEAR", bent, bent.rank(false), 5);
        Checks.refused("rank, not LINEAR", bent, bent.rank(true), 5);
    }

    private static void form(SteeringHouse house, int power, int trouble) {
        due("form(" + power + ")", house.form(power), Checks.NO_VALUE);
        due("trouble of form(" + power + ")", house.trouble(), trouble);
    }

    private static void formCall() {
        of("25", "FORM's factor of a power (0 .. states).");
        SteeringHouse house = Checks.house(CHAIN);
        due("power 0", house.form(0), 0);
        due("power 3", house.form(3), 1);
        due("power 1, of one state", Checks.house("state x 0 to 1; x = 9 * x").form(1), 1);
        due("trouble", house.trouble(), 0);

        of("25", "-2^31: 1; 2; 5.");
        form(new SteeringHouse(), 0, 1);
        form(new SteeringHouse(), -1, 1);
        for (int power : new int[] {-1, 4, LEAST, MOST}) {
            form(house, power, 2);
        }
        form(Checks.house("state x 0 to 1"), 2, 2);
        form(Checks.house(BENT), 0, 5);
        form(Checks.house(BENT), 1, 5);
        form(Checks.house(BENT), 2, 2);
    }

    private static void place(SteeringHouse house, int zero, int one, int two, int trouble) {
        Checks.refused("place " + zero + " " + one + " " + two, house, house.place(zero, one, two), trouble);
    }

    private static void placeCall() {
        of("26", "PLACE: by a FORM with these lower factors (of power 0, 1, 2;");
        SteeringHouse house = Checks.house(CHAIN);
        due("place", house.place(1, 2, 3), 3);
        due("of power 0", house.gain(0, false), -1);
        due("of power 1", house.gain(1, false), -2);
        due("of power 2", house.gain(2, false), -3);

        of("26", "those of powers that there aren't are of no matter;");
        SteeringHouse one = Checks.house("state x 0 to 1; push u 0 to 1; x = x + u");
        due("one state", one.place(0, MOST, LEAST), 1);
        SteeringHouse two = Checks.house(ALL + "x = y; y = u");
        due("two states", two.place(0, 0, LEAST), 2);
        place(two, 0, 1000, 0, 2);

        of("26", "-999 .. 999): how many gains.");
        due("least", house.place(-999, -999, -999), 3);
        due("most", house.place(999, 999, 999), 3);
        due("trouble", house.trouble(), 0);

        of("26", "NONE: 1; 2; 5.");
        place(new SteeringHouse(), 0, 0, 0, 1);
        place(new SteeringHouse(), 1000, 0, 0, 1);
        for (int far : new int[] {-1000, 1000, LEAST, MOST}) {
            place(house, far, 0, 0, 2);
            place(house, 0, far, 0, 2);
            place(house, 0, 0, far, 2);
            place(Checks.house(BENT), far, 0, 0, 2);
        }
        place(Checks.house(BENT), 0, 0, 0, 5);
        place(Checks.house("state x 0 to 1"), 0, 0, 0, 5);
        place(Checks.house("state x 0 to 1; push u 0 to 1; push v 0 to 1; x = u + v"), 0, 0, 0, 5);
        place(Checks.house(THREE + "x = 0; y = z; z = u"), 0, 0, 0, 5);
        place(Checks.house("state x 0 to 1; push u 0 to 1"), 0, 0, 0, 5);
    }

    private static void gainCall() {
        of("27", "Gain i of the latest place() that told a number: its numerator, or denominator (above 0);");
        SteeringHouse house = Checks.house("state x 0 to 1; push u 0 to 1; x = 5 * x + 6 * u");
        house.place(-2, 0, 0);
        place(house, 1000, 0, 0, 2);
        due("behind one refused by 2", house.gain(0, false), -1);
        Checks.thing(house, BENT);
        place(house, 0, 0, 0, 5);
        due("behind one refused by 5", house.gain(0, true), 2);
        Checks.thing(house, CHAIN);
        due("behind a new THING", house.gain(0, true), 2);
        house.place(9, 8, 7);
        due("of the latest", house.gain(2, false), -7);
        due("of the latest", house.gain(2, true), 1);

        of("27", "-2^63 for none such.");
        house.stays(0, 0, 0, 0);
        for (int i : new int[] {-1, 3, 4, LEAST, MOST}) {
            due("gain " + i, house.gain(i, false), Checks.NO_GAIN);
            due("gain " + i, house.gain(i, true), Checks.NO_GAIN);
        }
        due("TROUBLE stays", house.trouble(), 2);
        Checks.thing(house, "state x 0 to 1; push u 0 to 1; x = x + u");
        due("three still", house.gain(2, false), -7);
        house.place(0, 0, 0);
        due("one now", house.gain(1, false), Checks.NO_GAIN);
        due("before any place", Checks.house(CHAIN).gain(0, false), Checks.NO_GAIN);
        due("without a THING", new SteeringHouse().gain(0, true), Checks.NO_GAIN);
    }

    private static void staysCall() {
        of("28", "STAYS of a polynomial with factors (of power 0, 1, 2, 3; -999 .. 999; not all 0): 1, 0.");
        SteeringHouse house = new SteeringHouse();
        due("of power 0 alone", house.stays(999, 0, 0, 0), 1);
        due("of power 1 alone", house.stays(0, -999, 0, 0), 1);
        due("of power 2 alone", house.stays(0, 0, 999, 0), 1);
        due("of power 3 alone", house.stays(0, 0, 0, -999), 1);
        due("the least", house.stays(-999, -999, -999, -999), 0);
        due("the most", house.stays(999, 999, 999, 999), 0);
        due("the first is the lowest", house.stays(1, 2, 0, 0), 1);
        due("and not the highest", house.stays(2, 1, 0, 0), 0);
        due("trouble", house.trouble(), 0);

        of("28", "NONE: 2.");
        Checks.refused("all 0", house, house.stays(0, 0, 0, 0), 2);
        for (int far : new int[] {-1000, 1000, LEAST, MOST}) {
            Checks.refused("zero " + far, house, house.stays(far, 0, 0, 1), 2);
            Checks.refused("one " + far, house, house.stays(0, far, 0, 1), 2);
            Checks.refused("two " + far, house, house.stays(0, 0, far, 1), 2);
            Checks.refused("three " + far, house, house.stays(1, 0, 0, far), 2);
        }
    }
}
