import java.util.ArrayList;
import java.util.List;
import java.util.NoSuchElementException;
import java.util.Random;

/** Random runs of calls, each answered by the class and by the plain model of the tests. */
public final class RandomRunsTest {
    private static final String[] NAMES = {"x", "y", "z", "u", "v", "w", "d", "k", "m", "s", "r"};

    private final Random random;
    private final SteeringHouse house = new SteeringHouse();
    private final Naive naive = new Naive();
    private final StringBuilder log = new StringBuilder();
    private final String run;
    /** What really goes on in the watched thing: a row of cell, push and world for each tick. */
    private final List<int[]> truth = new ArrayList<>();
    private int trueFault;

    private RandomRunsTest(long seed) {
        random = new Random(seed);
        run = "seed " + seed;
    }

    public static void main(String[] args) {
        int runs = args.length > 0 ? Integer.parseInt(args[0]) : 700;
        long from = args.length > 1 ? Long.parseLong(args[1]) : 1;
        for (long seed = from; seed < from + runs && Checks.wrongSoFar() == 0; seed++) {
            new RandomRunsTest(seed).play();
        }
        Checks.end("RandomRunsTest");
    }

    private int any(int n) {
        return random.nextInt(n);
    }

    private void play() {
        int calls = 100 + any(200);
        for (int i = 0; i < calls && Checks.wrongSoFar() == 0; i++) {
            if (naive.thing == null && any(10) < 7 || any(60) == 0) {
                tell();
            } else {
                ask();
            }
            due("trouble()", house.trouble(), naive.trouble);
            if (any(8) == 0) {
                due("where()", house.where(), naive.where());
                due("fault()", house.fault(), naive.fault);
            }
        }
        if (Checks.wrongSoFar() > 0) {
            System.out.println(run + ":\n" + log);
        }
    }

    private void due(String call, long got, long want) {
        log.append(call).append(" -> ").append(want).append('\n');
        Checks.due(run + " " + call, got, want);
    }

    private void due(String call, boolean got, boolean want) {
        due(call, got ? 1 : 0, want ? 1 : 0);
    }

    // ---- texts

    private void tell() {
        if (any(5) == 0) {
            give(soup(), 0);
            return;
        }
        if (any(3) == 0) {
            give(any(6) == 0 ? spoil(steering()) : steering(), 0);
            return;
        }
        List<String> lines = new ArrayList<>();
        List<String> told = new ArrayList<>();
        int states = 1 + any(3);
        int pushes = any(10) == 0 ? 0 : any(4) == 0 ? 2 : 1;
        int worlds = any(3);
        int nums = any(3);
        int wide = states == 1 ? 9 : states == 2 ? 5 : 3;
        if (any(40) == 0) {
            wide = states == 1 ? 15 : states == 2 ? 12 : 7;
        }
        for (int i = 0; i < states; i++) {
            lines.add("state " + NAMES[i] + " " + span(wide));
            told.add(NAMES[i]);
        }
        for (int i = 0; i < pushes; i++) {
            lines.add("push " + NAMES[3 + i] + " " + span(3));
            told.add(NAMES[3 + i]);
        }
        for (int i = 0; i < worlds; i++) {
            lines.add("world " + NAMES[5 + i] + " " + span(worlds == 2 || nums > 0 ? 2 : 3));
            told.add(NAMES[5 + i]);
        }
        for (int i = 0; i < nums; i++) {
            lines.add("num " + NAMES[7 + i] + " " + span(nums == 2 || worlds > 0 ? 2 : 3));
            told.add(NAMES[7 + i]);
        }
        if (any(2) == 0) {
            addTameSteps(lines, told, states);
        }
        int steps = any(4) == 0 ? any(9) : states;
        boolean plain = any(3) == 0;
        for (int i = 0; i < steps; i++) {
            String line = NAMES[plain ? i % states : any(states)] + " = " + stepSum(told, states);
            if (!plain && any(2) == 0) {
                line += " if " + test(told);
            }
            lines.add(line);
        }
        int sights = any(3);
        for (int i = 0; i < sights; i++) {
            lines.add("sight " + NAMES[9 + i] + " = " + sum(told));
        }
        String text = String.join(any(2) == 0 ? "; " : ";", lines);
        if (any(3) == 0) {
            text = spoil(text);
        }
        give(text, 0);
    }

    /** Lines and pieces of lines in no order, so that every fault is met at many places. */
    private String soup() {
        String[] pieces = {"state x 0 to 1", "state y -1 to 1", "state z 0 to 0", "state q 0 to 1", "push u 0 to 2",
            "push v 0 to 2", "push c 0 to 0", "world w 0 to 8", "world d 0 to 2", "num k 0 to 1", "num m 0 to 1",
            "num n 0 to 0", "sight s = x", "sight r = u", "sight t = 1", "x = x + u", "y = y", "x = 1 if x = 0",
            "y = - x * y + 3 if x < 1 and y > 2", "x = 1+1+1+1+1+1+1+1+1+1+1+1+1+1+1", "y = x*x*x*x*x*x*x*x*x",
            "state x 0 to 21", "state a -21 to", "state a 3 to 2", "state", "x =", "x = if", "u = 1", "sight x = 1",
            "state to 1 to 2", "state b -20 to 20", "q = u", "1", "=", "x = k * w + d", "world k 1 to 2", "", "x < 1"};
        StringBuilder text = new StringBuilder(any(4) > 0 ? "state x 0 to 1" : "");
        int parts = any(16);
        for (int i = 0; i < parts; i++) {
            text.append(any(40) == 0 ? " " : ";").append(pieces[any(any(3) == 0 ? pieces.length : 21)]);
        }
        return text.toString();
    }

    /** A thing that someone might really want to steer. */
    private String steering() {
        int n = 2 + any(6);
        int m = 1 + any(3);
        String x = "state x -" + n + " to " + n;
        String kept = " > -" + (n + 1) + " and ";
        String push = "; push u -" + any(3) + " to " + (1 + any(2));
        String world = "; world w -" + any(2) + " to " + any(2);
        String num = "; num k " + (any(3) - 1) + " to " + (1 + any(3));
        String sight = any(3) == 0 ? "" : "; sight s = x" + (any(3) == 0 ? " + w" : any(2) == 0 ? " * u" : "");
        switch (any(7)) {
            case 0:
                return "state x 0 to " + n + push + "; x = x + u" + sight.replace("w", "1");
            case 1:
                return x + push + world + "; x = x + u + w if x + u + w" + kept + "x + u + w < " + (n + 1) + sight;
            case 2:
                return x + "; state v -" + m + " to " + m + push + world + "; x = x + v; v = v + u + w" + sight;
            case 3:
                return x + push + world + num + "; x = x + k * u if x + k * u" + kept + "x + k * u < " + (n + 1)
                        + "; x = x + w if x < 1" + sight;
            case 4:
                return x + "; state y 0 to " + m + push + "; push v 0 to 1" + world + num
                        + "; x = x + u * k; y = y + v if y < " + m + "; y = y - v + w * w if x < 1" + sight
                        + "; sight r = y - v";
            case 5:
                return x + push + world + num + "; x = x - 1 if x > 0; x = x + 1 if x < 0 - w; x = u - k" + sight;
            default:
                return "state x -9 to 9; state y -3 to 3; state z 0 to 1" + push + "; x = " + line() + "; y = " + line()
                        + "; z = " + line() + "; sight s = " + line();
        }
    }

    private String line() {
        return (any(2) == 0 ? "- " : "") + any(5) + " * x" + (any(2) == 0 ? " - " : " + ") + any(5) + " * y"
                + (any(2) == 0 ? " - " : " + ") + any(22) + " * z" + (any(2) == 0 ? " + u * " + any(4) : "");
    }

    /** Steps that are taken only where they don't lead out, so that there is much to be kept and reached. */
    private void addTameSteps(List<String> lines, List<String> told, int states) {
        for (int i = 0; i < states; i++) {
            String[] words = lines.get(i).split(" ");
            String sum = any(3) == 0 ? stepSum(told, states) : NAMES[i] + " + " + told.get(any(told.size()));
            if (any(3) == 0) {
                sum += " - " + told.get(any(told.size()));
            }
            String low = words[2].equals("0") ? "- 1" : Integer.toString(Integer.parseInt(words[2]) - 1);
            String high = Integer.toString(Integer.parseInt(words[4]) + 1);
            lines.add(NAMES[i] + " = " + sum + " if " + sum + " > " + low + " and " + sum + " < " + high);
            if (any(4) == 0) {
                lines.add(NAMES[i] + " = " + words[2]);
            } else if (any(4) > 0) {
                lines.add(NAMES[i] + " = " + NAMES[i]);
            }
        }
    }

    private String span(int most) {
        int low = any(3) == 0 ? any(7) - 3 : -any(2);
        return low + " to " + (low + any(most));
    }

    private String stepSum(List<String> told, int states) {
        StringBuilder sum = new StringBuilder(any(3) == 0 ? sum(told) : told.get(any(states)));
        if (any(3) > 0) {
            sum.append(any(2) == 0 ? " + " : " - ").append(told.get(any(told.size())));
        }
        return sum.toString();
    }

    private String sum(List<String> told) {
        StringBuilder sum = new StringBuilder(any(6) == 0 ? "- " : "");
        int terms = 1 + any(3);
        for (int i = 0; i < terms; i++) {
            sum.append(i == 0 ? "" : any(2) == 0 ? " + " : " - ");
            int factors = any(3) == 0 ? 2 + any(2) : 1;
            for (int j = 0; j < factors; j++) {
                sum.append(j == 0 ? "" : " * ");
                int which = any(12);
                sum.append(which == 0 ? "" + any(1000) : which < 4 ? "" + any(4) : told.get(any(told.size())));
            }
        }
        return sum.toString();
    }

    private String test(List<String> told) {
        StringBuilder test = new StringBuilder();
        int ones = any(4) == 0 ? 2 : 1;
        for (int i = 0; i < ones; i++) {
            test.append(i == 0 ? "" : " and ").append(any(2) == 0 ? sum(told) : told.get(any(told.size())));
            test.append(" <>=".charAt(1 + any(3))).append(any(2) == 0 ? sum(told) : (any(2) == 0 ? "-" : "") + any(4));
        }
        return test.toString();
    }

    private String spoil(String text) {
        String[] pieces = {"x", "to", "if", "and", ";", "=", "<", "+", "-", "*", "21", "1", "state", "push", "q",
            "sight", "world", "num", "u", "s", "!", "abcdefghi", "1234", " ", "abcdefgh", "; state q 1 to 2",
            "; x = x", "state b 0 to 20;", "A", "push c 0 to 9;", "world e -2 to 2;", " if x = 1"};
        StringBuilder spoilt = new StringBuilder(text);
        int times = 1 + any(2);
        for (int i = 0; i < times; i++) {
            int at = any(spoilt.length() + 1);
            switch (any(4)) {
                case 0 -> spoilt.insert(at, " " + pieces[any(pieces.length)] + " ");
                case 1 -> spoilt.setLength(at);
                case 2 -> spoilt.delete(at, Math.min(spoilt.length(), at + 1 + any(4)));
                default -> spoilt.insert(at, pieces[any(pieces.length)]);
            }
        }
        return spoilt.toString();
    }

    private void give(String text, int what) {
        int wanted = Math.min(text.length(), 400);
        String rest = text.substring(0, wanted);
        if (naive.tape.length() > 0) {
            house.thing(0);
            naive.thing(0);
        }
        for (int at = 0; at < wanted; at += 20) {
            int[] n = new int[5];
            for (int i = 0; i < 5; i++) {
                n[i] = Checks.four(rest, at + 4 * i);
            }
            due("feed", house.feed(n[0], n[1], n[2], n[3], n[4]), naive.feed(n));
        }
        log.append("text: ").append(rest).append('\n');
        int n = any(30) == 0 ? any(450) - 20 : wanted;
        String call = List.of("thing", "good", "goal", "cost").get(what) + "(" + n + ")";
        switch (what) {
            case 0 -> due(call, house.thing(n), naive.thing(n));
            case 1 -> due(call, house.good(n), naive.good(n));
            case 2 -> due(call, house.goal(n), naive.goal(n));
            default -> due(call, house.cost(n), naive.cost(n));
        }
        due("trouble()", house.trouble(), naive.trouble);
        due("where()", house.where(), naive.where());
        due("fault()", house.fault(), naive.fault);
        due("count(11)", house.count(11), naive.count(11));
    }

    private void giveWish() {
        List<String> names = new ArrayList<>();
        int what = 1 + any(3);
        if (naive.thing != null) {
            for (int kind = 0; kind < (what == 3 ? 2 : 1); kind++) {
                for (Naive.Named each : naive.thing.spans.get(kind)) {
                    names.add(each.name());
                }
            }
        }
        if (names.isEmpty() || any(15) == 0) {
            names.add(NAMES[any(NAMES.length)]);
        }
        String brief = names.get(any(names.size()));
        brief += any(3) == 0 ? " = " + any(3) : (any(2) == 0 ? " > -" : " < ") + any(4);
        String text = what == 3 ? sum(names) : any(3) > 0 ? brief : test(names);
        if (any(10) == 0) {
            text = spoil(text);
        }
        give(text, what);
    }

    // ---- calls

    private int cell() {
        int n = naive.thing == null ? 2 : naive.cells.size();
        return any(25) == 0 ? any(2) == 0 ? -1 - any(3) : n + any(3) : any(n);
    }

    private int push() {
        int n = naive.thing == null ? 2 : naive.pushes.size();
        return any(25) == 0 ? any(2) == 0 ? -1 : n : any(n);
    }

    private int world() {
        int n = naive.thing == null ? 2 : naive.worlds.size();
        return any(25) == 0 ? any(2) == 0 ? -1 : n : any(n);
    }

    private void ask() {
        switch (any(7)) {
            case 0 -> askThing();
            case 1 -> askWishes();
            case 2 -> askLinear();
            case 3, 4 -> askWatcher();
            case 5 -> askCode();
            default -> {
                if (any(2) == 0) {
                    giveWish();
                } else {
                    askWishes();
                }
            }
        }
    }

    private void askThing() {
        int c = cell();
        int p = push();
        int w = world();
        int i = any(5) - 1;
        int what = any(16) - 1;
        int x = any(7) - 3;
        int y = any(7) - 3;
        int z = any(7) - 3;
        switch (any(6)) {
            case 0 -> due("count(" + what + ")", house.count(what), naive.count(what));
            case 1 -> due("cell " + x + " " + y + " " + z, house.cell(x, y, z), naive.cell(x, y, z));
            case 2 -> due("state " + c + " " + i, house.state(c, i), naive.state(c, i));
            case 3 -> due("push " + p + " " + i, house.push(p, i), naive.push(p, i));
            case 4 -> due("next " + c + " " + p + " " + w, house.next(c, p, w), naive.next(c, p, w));
            default -> due("sight " + c + " " + p + " " + w + " " + i, house.sight(c, p, w, i),
                    naive.sight(c, p, w, i));
        }
    }

    private void askWishes() {
        int c = cell();
        int h = any(10) == 0 ? any(40) - 10 : any(6);
        int i = any(5) - (any(8) == 0 ? 1 : 0);
        switch (any(9)) {
            case 0 -> due("safe", house.safe(), naive.safe());
            case 1 -> due("layer " + c, house.layer(c), naive.layer(c));
            case 2 -> due("allowed " + c, house.allowed(c), naive.allowed(c));
            case 3 -> due("ticks " + c, house.ticks(c), naive.ticks(c));
            case 4 -> due("law " + c, house.law(c), naive.law(c));
            case 5 -> due("best " + c + " " + h, house.best(c, h), naive.best(c, h));
            case 6 -> due("bestLaw " + c + " " + h, house.bestLaw(c, h), naive.bestLaw(c, h));
            case 7 -> askWorst(c, h, i);
            default -> due("margin " + c, house.margin(c), naive.margin(c));
        }
    }

    private void askWorst(int c, int h, int i) {
        long got;
        long want;
        try {
            got = house.worst(c, h, i);
        } catch (NoSuchElementException none) {
            got = 77777;
        }
        try {
            want = naive.worst(c, h, i);
        } catch (NoSuchElementException none) {
            want = 77777;
        }
        due("worst " + c + " " + h + " " + i, got, want);
    }

    private int factor(int most) {
        int which = any(20);
        return which == 0 ? most : which == 1 ? -most : which == 2 ? most + 1 : any(2 * most / (1 + any(99)) + 1)
                * (any(2) == 0 ? -1 : 1);
    }

    private void askLinear() {
        boolean seeing = any(2) == 0;
        int power = any(5) - (any(9) == 0 ? 1 : 0);
        int[] p = {factor(999), factor(999), factor(999), factor(999)};
        switch (any(4)) {
            case 0 -> due("rank " + seeing, house.rank(seeing), naive.rank(seeing));
            case 1 -> due("form " + power, house.form(power), naive.form(power));
            case 2 -> askPlace(p);
            default -> due("stays", house.stays(p[0], p[1], p[2], p[3]), naive.stays(p));
        }
    }

    private void askPlace(int[] p) {
        int n = naive.place(p);
        due("place " + p[0] + " " + p[1] + " " + p[2], house.place(p[0], p[1], p[2]), n);
        if (n > 0) {
            long[] tops = new long[n];
            long[] bottoms = new long[n];
            for (int i = 0; i < n; i++) {
                tops[i] = house.gain(i, false);
                bottoms[i] = house.gain(i, true);
            }
            due("gains do it", naive.placesAsTold(p, tops, bottoms), true);
            due("gain " + n, house.gain(n, true), Checks.NO_GAIN);
        }
    }

    private void askWatcher() {
        int c = cell();
        int i = any(3) - (any(9) == 0 ? 1 : 0);
        int t = any(naive.ticks.size() + 1) + (any(15) == 0 ? any(5) - 2 : 0);
        boolean most = any(2) == 0;
        int p = push();
        switch (any(14)) {
            case 0, 1, 2 -> askTick(p);
            case 3, 4, 5 -> askTold(t, i);
            case 6 -> due("can " + i, house.can(i), naive.can(i));
            case 7 -> due("can " + (i + 2), house.can(i + 2), naive.can(i + 2));
            case 8 -> due("canBe " + c, house.canBe(c), naive.canBe(c));
            case 9 -> due("guess " + i + most, house.guess(i, most), naive.guess(i, most));
            case 10 -> due("named", house.named(), naive.named());
            case 11 -> due("known " + t, house.known(t), naive.known(t));
            case 12 -> due("fit", house.fit(), naive.fit());
            default -> {
                if (any(6) == 0) {
                    due("anew", house.anew(), naive.anew());
                } else {
                    due("probe " + c, house.probe(c), naive.probe(c));
                }
            }
        }
    }

    /** What goes on is kept as long as it doesn't go out. */
    private void askTick(int p) {
        int had = naive.ticks.size();
        due("tick " + p, house.tick(p), naive.tick(p));
        if (had == 0 && naive.ticks.size() == 1) {
            beginTruth();
        }
        if (naive.ticks.size() == had + 1 && truth.size() == had + 1) {
            int nums = naive.nums();
            int world = any(naive.worlds.size() / nums) * nums + truth.get(had)[2] % nums;
            int push = p;
            if (trueFault >= 1 && trueFault <= naive.thing.spans.get(1).size()) {
                push = naive.failing(p, trueFault);
            }
            int next = naive.leadOf(truth.get(had)[0], push, world);
            if (next >= 0) {
                truth.add(new int[] {next, push, world});
            }
        }
    }

    private void beginTruth() {
        truth.clear();
        truth.add(new int[] {any(naive.cells.size()), -1, any(naive.nums())});
        trueFault = any(2) == 0 ? 0 : any(naive.thing.spans.get(1).size() + naive.thing.sights.size() + 1);
    }

    private int trueSight(int t, int i) {
        int[] row = truth.get(t);
        if (trueFault == naive.thing.spans.get(1).size() + 1 + i) {
            return 0;
        }
        return t == 0 ? naive.firstSight(row[0], row[2], i) : naive.sight(row[0], row[1], row[2], i);
    }

    /** Mostly a sight that is there, or that some cell, push and world give, so that cells are left. */
    private void askTold(int t, int i) {
        int value = any(5) - 2;
        if (naive.ticks.isEmpty() && naive.thing != null) {
            beginTruth();
        }
        if (naive.thing != null && i >= 0 && i < naive.thing.sights.size() && any(15) > 0) {
            value = t >= 0 && t < truth.size() ? trueSight(t, i)
                    : naive.sight(any(naive.cells.size()), any(naive.pushes.size()), any(naive.worlds.size()), i);
        }
        due("told " + t + " " + i + " " + value, house.told(t, i, value), naive.told(t, i, value));
    }

    private int claimFor(int cell) {
        if (any(4) == 0 || cell < 0 || naive.thing == null || cell >= naive.cells.size()) {
            return any(9) == 0 ? any(3) == 0 ? 1000 : -2 : any(5) - 1;
        }
        int ticks = naive.ticks(cell);
        return ticks < 0 ? -1 : ticks;
    }

    private void askCode() {
        int c = cell();
        int[] g = {factor(127), factor(127), factor(127), factor(127), any(9) - (any(9) == 0 ? 1 : 0)};
        switch (any(10)) {
            case 0, 1 -> due("code " + java.util.Arrays.toString(g), house.code(g[0], g[1], g[2], g[3], g[4]),
                    naive.code(g));
            case 2 -> due("coded " + c, house.coded(c), naive.coded(c));
            case 3 -> due("strays", house.strays(), naive.strays());
            case 4 -> due("walk " + c, house.walk(c), naive.walk(c));
            case 5, 6, 7 -> {
                int ticks = claimFor(c);
                due("claim " + c + " " + ticks, house.claim(c, ticks), naive.claim(c, ticks));
            }
            case 8 -> due("proved " + c, house.proved(c), naive.proved(c));
            default -> due("breaks", house.breaks(), naive.breaks());
        }
    }
}
