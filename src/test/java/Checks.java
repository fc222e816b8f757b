/** What the tests share: counting wrong answers, and feeding texts. */
final class Checks {
    static final int NO_VALUE = -2147483648;
    static final long NO_GAIN = -9223372036854775808L;

    private static int wrong = 0;
    private static int asked = 0;

    private Checks() {
    }

    static void due(String what, long got, long want) {
        asked++;
        if (got != want) {
            wrong++;
            if (wrong <= 40) {
                System.out.println(what + " answered " + got + ", due is " + want);
            }
        }
    }

    static void due(String what, boolean got, boolean want) {
        due(what, got ? 1 : 0, want ? 1 : 0);
    }

    static int wrongSoFar() {
        return wrong;
    }

    static void end(String name) {
        System.out.println(name + ": " + asked + " answers, " + wrong + " wrong");
        if (wrong > 0) {
            System.exit(1);
        }
    }

    static int four(String text, int at) {
        int number = 0;
        for (int i = at; i < at + 4; i++) {
            number = number << 8 | (i < text.length() ? text.charAt(i) & 255 : ' ');
        }
        return number;
    }

    static void feed(SteeringHouse house, String text) {
        for (int at = 0; at < text.length(); at += 20) {
            house.feed(four(text, at), four(text, at + 4), four(text, at + 8), four(text, at + 12),
                    four(text, at + 16));
        }
    }

    static int thing(SteeringHouse house, String text) {
        feed(house, text);
        return house.thing(text.length());
    }

    static int good(SteeringHouse house, String text) {
        feed(house, text);
        return house.good(text.length());
    }

    static int goal(SteeringHouse house, String text) {
        feed(house, text);
        return house.goal(text.length());
    }

    static int cost(SteeringHouse house, String text) {
        feed(house, text);
        return house.cost(text.length());
    }

    static SteeringHouse house(String text) {
        SteeringHouse house = new SteeringHouse();
        if (thing(house, text) < 0) {
            due("the text of a test, with fault " + house.fault() + " at " + house.where() + ": " + text, 0, 1);
        }
        return house;
    }
}
