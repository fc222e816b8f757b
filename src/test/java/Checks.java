import java.util.ArrayList;
import java.util.List;

/** What the tests share: counting wrong answers, and feeding texts. */
final class Checks {
    static final int LEAST = -2147483648;
    static final int MOST = 2147483647;
    static final int NO_VALUE = -2147483648;
    static final long NO_GAIN = -9223372036854775808L;

    /** A sentence of the document: in which of its parts it stands, its words, how many answers were asked for it. */
    static final class Sentence {
        final String part;
        final String words;
        int answers = 0;

        Sentence(String part, String words) {
            this.part = part;
            this.words = words;
        }
    }

    static final List<Sentence> SENTENCES = new ArrayList<>();

    private static int wrong = 0;
    private static int asked = 0;

    private Checks() {
    }

    /** What is asked from now on is the test of these words of the document. */
    static void of(String part, String words) {
        SENTENCES.add(new Sentence(part, words));
    }

    static void due(String what, long got, long want) {
        asked++;
        Sentence latest = SENTENCES.isEmpty() ? null : SENTENCES.get(SENTENCES.size() - 1);
        if (latest != null) {
            latest.answers++;
        }
        if (got != want) {
            wrong++;
            if (wrong <= 40) {
                String where = latest == null ? "" : latest.part + ", \"" + latest.words + "\": ";
                System.out.println(where + what + " answered " + got + ", due is " + want);
            }
        }
    }

    static void due(String what, boolean got, boolean want) {
        due(what, got ? 1 : 0, want ? 1 : 0);
    }

    static int wrongSoFar() {
        return wrong;
    }

    static void end(String name) {
        System.out.println(name + ": " + asked + " answers, " + wrong + " wrong");
        if (wrong > 0) {
            System.exit(1);
        }
    }

    static int four(String text, int at) {
        int number = 0;
        for (int i = at; i < at + 4; i++) {
            number = number << 8 | (i < text.length() ? text.charAt(i) & 255 : ' ');
        }
        return number;
    }

    static void feed(SteeringHouse house, String text) {
        for (int at = 0; at < text.length(); at += 20) {
            house.feed(four(text, at), four(text, at + 4), four(text, at + 8), four(text, at + 12),
                    four(text, at + 16));
        }
    }

    static int thing(SteeringHouse house, String text) {
        feed(house, text);
        return house.thing(text.length());
    }

    static int good(SteeringHouse house, String text) {
        feed(house, text);
        return house.good(text.length());
    }

    static int goal(SteeringHouse house, String text) {
        feed(house, text);
        return house.goal(text.length());
    }

    static int cost(SteeringHouse house, String text) {
        feed(house, text);
        return house.cost(text.length());
    }

    static SteeringHouse house(String text) {
        SteeringHouse house = new SteeringHouse();
        if (thing(house, text) < 0) {
            due("the text of a test, with fault " + house.fault() + " at " + house.where() + ": " + text, 0, 1);
        }
        return house;
    }

    /** That a text is a THING with so many cells. */
    static void fine(String text, int cells) {
        SteeringHouse house = new SteeringHouse();
        due("cells of \"" + text + "\"", thing(house, text), cells);
        due("fault of \"" + text + "\"", house.fault(), 0);
        due("trouble of \"" + text + "\"", house.trouble(), 0);
        due("place of \"" + text + "\"", house.where(), -1);
    }

    /** That a text is no THING, and by which fault at which place. */
    static void fault(String text, int number, int place) {
        SteeringHouse house = new SteeringHouse();
        due("cells of \"" + text + "\"", thing(house, text), -1);
        due("fault of \"" + text + "\"", house.fault(), number);
        due("trouble of \"" + text + "\"", house.trouble(), 4);
        due("place of \"" + text + "\"", house.where(), place);
        due("states of no thing by \"" + text + "\"", house.count(0), -1);
    }

    /** That the call just made was refused with a number and by which trouble. */
    static void refused(String what, SteeringHouse house, long got, int trouble) {
        due(what, got, -1);
        due("trouble of " + what, house.trouble(), trouble);
    }

    static void refused(String what, SteeringHouse house, boolean got, int trouble) {
        due(what, got, false);
        due("trouble of " + what, house.trouble(), trouble);
    }
}
