import java.math.BigInteger;
import java.util.ArrayList;
import java.util.Arrays;
import java.util.HashMap;
import java.util.HashSet;
import java.util.LinkedHashMap;
import java.util.List;
import java.util.Map;
import java.util.NoSuchElementException;
import java.util.Set;
import java.util.TreeSet;

/**
 * The document once more, written as plainly as can be and with no thought of speed or room: maps, sets, big
 * numbers, everything worked out anew at each call. The random runs hold the class against it.
 */
final class Naive {
    static final class Wrong extends RuntimeException {
        private static final long serialVersionUID = 1L;
        final int number;
        final int place;

        Wrong(int number, int place) {
            super(null, null, false, false);
            this.number = number;
            this.place = place;
        }
    }

    record Token(char kind, String text, int place) {
    }

    record Factor(String name, int whole) {
    }

    record Term(boolean minus, List<Factor> factors) {
    }

    record One(List<Term> left, char relation, List<Term> right) {
    }

    record Step(String name, List<Term> sum, List<One> test) {
    }

    record Named(String name, int low, int high) {
    }

    static final List<String> KINDS = List.of("state", "push", "world", "num", "sight");
    static final Set<String> RESERVED = Set.of("state", "push", "world", "num", "sight", "to", "if", "and");

    static final class Thing {
        final List<List<Named>> spans = List.of(new ArrayList<>(), new ArrayList<>(), new ArrayList<>(),
                new ArrayList<>());
        final Map<String, List<Term>> sights = new LinkedHashMap<>();
        final List<Step> steps = new ArrayList<>();

        String kindOf(String name) {
            for (int k = 0; k < 4; k++) {
                for (Named each : spans.get(k)) {
                    if (each.name.equals(name)) {
                        return KINDS.get(k);
                    }
                }
            }
            return sights.containsKey(name) ? "sight" : null;
        }

        List<Map<String, Integer>> all(List<Named> names, int wider) {
            List<Map<String, Integer>> rows = new ArrayList<>();
            rows.add(new HashMap<>());
            for (Named each : names) {
                List<Map<String, Integer>> more = new ArrayList<>();
                for (Map<String, Integer> row : rows) {
                    for (int v = each.low - wider; v <= each.high + wider; v++) {
                        Map<String, Integer> longer = new HashMap<>(row);
                        longer.put(each.name, v);
                        more.add(longer);
                    }
                }
                rows = more;
            }
            return rows;
        }
    }

    // ---- reading

    static final class Text {
        final List<Token> tokens = new ArrayList<>();
        final Thing thing;
        final Set<String> permitted;
        int at = 0;
        int factors = 0;

        Text(String text, Thing thing, Set<String> permitted) {
            this.thing = thing;
            this.permitted = permitted;
            int i = 0;
            while (i < text.length()) {
                char c = text.charAt(i);
                int j = i;
                if (c >= 'a' && c <= 'z') {
                    while (j < text.length() && text.charAt(j) >= 'a' && text.charAt(j) <= 'z') {
                        j++;
                    }
                    tokens.add(new Token(j - i > 8 ? '?' : 'w', text.substring(i, j), i));
                } else if (c >= '0' && c <= '9') {
                    while (j < text.length() && text.charAt(j) >= '0' && text.charAt(j) <= '9') {
                        j++;
                    }
                    tokens.add(new Token(j - i > 3 ? '?' : 'n', text.substring(i, j), i));
                } else {
                    j++;
                    if (c != ' ') {
                        tokens.add(new Token("<>=+-*;".indexOf(c) >= 0 ? c : '?', "", i));
                    }
                }
                i = j;
            }
            tokens.add(new Token('e', "", text.length()));
        }

        Token now() {
            return tokens.get(at);
        }

        boolean word(String text) {
            return now().kind == 'w' && now().text.equals(text);
        }

        Wrong wrong(int number) {
            return new Wrong(number, now().place);
        }

        void expect(char kind) {
            if (now().kind != kind) {
                throw wrong(1);
            }
            at++;
        }

        int integer() {
            int sign = 1;
            if (now().kind == '-') {
                sign = -1;
                at++;
            }
            String digits = now().text;
            expect('n');
            return sign * Integer.parseInt(digits);
        }

        void lines() {
            while (true) {
                line();
                if (now().kind == 'e') {
                    break;
                }
                expect(';');
            }
            long cells = thing.all(thing.spans.get(0), 0).size();
            long pushes = thing.all(thing.spans.get(1), 0).size();
            long worlds = (long) thing.all(thing.spans.get(2), 0).size() * thing.all(thing.spans.get(3), 0).size();
            if (thing.spans.get(0).isEmpty() || cells > 400 || pushes > 9 || worlds > 27) {
                throw wrong(5);
            }
        }

        void line() {
            if (now().kind != 'w') {
                throw wrong(1);
            }
            String first = now().text;
            int kind = KINDS.indexOf(first);
            if (kind >= 0) {
                at++;
                declare(kind);
                return;
            }
            if (!"state".equals(thing.kindOf(first))) {
                throw wrong(2);
            }
            if (thing.steps.size() == 8) {
                throw wrong(5);
            }
            at++;
            expect('=');
            List<Term> sum = sum();
            List<One> test = new ArrayList<>();
            if (word("if")) {
                at++;
                test = test();
            }
            thing.steps.add(new Step(first, sum, test));
        }

        void declare(int kind) {
            if (now().kind != 'w') {
                throw wrong(1);
            }
            String name = now().text;
            if (RESERVED.contains(name) || thing.kindOf(name) != null) {
                throw wrong(3);
            }
            int had = kind == 4 ? thing.sights.size() : thing.spans.get(kind).size();
            if (had == (kind == 0 ? 3 : 2)) {
                throw wrong(5);
            }
            at++;
            if (kind == 4) {
                thing.sights.put(name, List.of());
                expect('=');
                thing.sights.put(name, sum());
                return;
            }
            int low = integer();
            if (!word("to")) {
                throw wrong(1);
            }
            int to = now().place;
            if (Math.abs(low) > 20) {
                throw wrong(4);
            }
            at++;
            int high = integer();
            if (Math.abs(high) > 20 || high < low) {
                throw new Wrong(4, to);
            }
            thing.spans.get(kind).add(new Named(name, low, high));
        }

        List<One> test() {
            List<One> ones = new ArrayList<>();
            while (true) {
                List<Term> left = sum();
                char relation = now().kind;
                if ("<>=".indexOf(relation) < 0) {
                    throw wrong(1);
                }
                at++;
                ones.add(new One(left, relation, sum()));
                if (!word("and")) {
                    return ones;
                }
                at++;
            }
        }

        List<Term> sum() {
            List<Term> terms = new ArrayList<>();
            boolean minus = now().kind == '-';
            if (minus) {
                at++;
            }
            while (true) {
                List<Factor> product = new ArrayList<>();
                product.add(factor());
                while (now().kind == '*') {
                    at++;
                    product.add(factor());
                }
                terms.add(new Term(minus, product));
                if (now().kind != '+' && now().kind != '-') {
                    return terms;
                }
                minus = now().kind == '-';
                at++;
            }
        }

        Factor factor() {
            Factor found;
            if (now().kind == 'n') {
                found = new Factor(null, Integer.parseInt(now().text));
            } else if (now().kind == 'w' && !RESERVED.contains(now().text)) {
                String kind = thing.kindOf(now().text);
                if (kind == null || !permitted.contains(kind)) {
                    throw wrong(2);
                }
                found = new Factor(now().text, 0);
            } else {
                throw wrong(1);
            }
            if (factors == 60) {
                throw wrong(5);
            }
            factors++;
            at++;
            return found;
        }

        void end() {
            if (now().kind != 'e') {
                throw wrong(1);
            }
        }
    }

    // ---- worth of sums and tests

    static long bound(long x) {
        return x > 1000000 ? 1000000 : x < -1000000 ? -1000000 : x;
    }

    static int worth(List<Term> sum, Map<String, Integer> values) {
        long total = 0;
        for (Term term : sum) {
            long product = 1;
            for (Factor factor : term.factors) {
                product = bound(product * (factor.name == null ? factor.whole : values.get(factor.name)));
            }
            total = bound(term.minus ? total - product : total + product);
        }
        return (int) total;
    }

    static boolean holds(List<One> test, Map<String, Integer> values) {
        for (One one : test) {
            int order = Integer.compare(worth(one.left, values), worth(one.right, values));
            if (order != (one.relation == '<' ? -1 : one.relation == '>' ? 1 : 0)) {
                return false;
            }
        }
        return true;
    }

    // ---- what the object holds

    StringBuilder tape = new StringBuilder();
    Thing thing;
    List<Map<String, Integer>> cells;
    List<Map<String, Integer>> pushes;
    List<Map<String, Integer>> worlds;
    List<One> good;
    List<One> goal;
    List<Term> cost;
    int[] code = new int[5];
    Map<Integer, Integer> claims = new HashMap<>();
    List<Integer> ticks = new ArrayList<>();
    List<int[]> tellings = new ArrayList<>();
    List<BigInteger[]> gains = new ArrayList<>();
    int trouble;
    int fault;
    int place = -1;
    Map<String, Integer> leads = new HashMap<>();
    Map<Integer, Set<Integer>> safeBy = new HashMap<>();
    Map<String, int[]> bests = new HashMap<>();

    int refuse(int number) {
        trouble = number;
        return -1;
    }

    boolean isCell(int cell) {
        return thing != null && cell >= 0 && cell < cells.size();
    }

    boolean isPush(int push) {
        return thing != null && push >= 0 && push < pushes.size();
    }

    boolean isWorld(int world) {
        return thing != null && world >= 0 && world < worlds.size();
    }

    int nums() {
        return thing.all(thing.spans.get(3), 0).size();
    }

    int feed(int... five) {
        if (tape.length() + 20 > 400) {
            return -1;
        }
        for (int four : five) {
            tape.append((char) (four >>> 24)).append((char) (four >>> 16 & 255)).append((char) (four >>> 8 & 255))
                    .append((char) (four & 255));
        }
        return tape.length();
    }

    Text open(int n, Thing names, String... permitted) {
        String text = tape.substring(0, n);
        tape.setLength(0);
        fault = 0;
        trouble = 0;
        return new Text(text, names, Set.of(permitted));
    }

    int failed(Wrong wrong) {
        fault = wrong.number;
        place = wrong.place;
        return refuse(4);
    }

    List<Map<String, Integer>> worldsBy(int wider) {
        List<Map<String, Integer>> rows = new ArrayList<>();
        for (Map<String, Integer> world : thing.all(thing.spans.get(2), wider)) {
            for (Map<String, Integer> num : thing.all(thing.spans.get(3), 0)) {
                Map<String, Integer> both = new HashMap<>(world);
                both.putAll(num);
                rows.add(both);
            }
        }
        return rows;
    }

    int thing(int n) {
        if (n < 0 || n > tape.length()) {
            return refuse(2);
        }
        Thing told = new Thing();
        try {
            open(n, told, "state", "push", "world", "num").lines();
        } catch (Wrong wrong) {
            return failed(wrong);
        }
        thing = told;
        cells = told.all(told.spans.get(0), 0);
        pushes = told.all(told.spans.get(1), 0);
        worlds = worldsBy(0);
        good = List.of();
        goal = null;
        cost = null;
        code = new int[5];
        claims.clear();
        leads.clear();
        forget();
        ticks.clear();
        tellings.clear();
        return cells.size();
    }

    void forget() {
        safeBy.clear();
        bests.clear();
    }

    int atTest(List<One> test) {
        int count = 0;
        for (Map<String, Integer> cell : cells) {
            count += holds(test, cell) ? 1 : 0;
        }
        return count;
    }

    int good(int n) {
        if (thing == null) {
            return refuse(1);
        }
        if (n < 0 || n > tape.length()) {
            return refuse(2);
        }
        try {
            Text text = open(n, thing, "state");
            List<One> test = text.test();
            text.end();
            good = test;
        } catch (Wrong wrong) {
            return failed(wrong);
        }
        forget();
        return atTest(good);
    }

    int goal(int n) {
        if (thing == null) {
            return refuse(1);
        }
        if (n < 0 || n > tape.length()) {
            return refuse(2);
        }
        try {
            Text text = open(n, thing, "state");
            List<One> test = text.test();
            text.end();
            goal = test;
        } catch (Wrong wrong) {
            return failed(wrong);
        }
        return atTest(goal);
    }

    int cost(int n) {
        if (thing == null) {
            return refuse(1);
        }
        if (n < 0 || n > tape.length()) {
            return refuse(2);
        }
        try {
            Text text = open(n, thing, "state", "push");
            List<Term> sum = text.sum();
            text.end();
            cost = sum;
        } catch (Wrong wrong) {
            return failed(wrong);
        }
        forget();
        return 0;
    }

    int where() {
        return trouble == 4 ? place : -1;
    }

    int count(int what) {
        if (what == 11) {
            return tape.length();
        }
        if (thing == null) {
            return -1;
        }
        return switch (what) {
            case 0, 1, 2, 3 -> thing.spans.get(what).size();
            case 4 -> thing.sights.size();
            case 5 -> cells.size();
            case 6 -> pushes.size();
            case 7 -> worlds.size();
            case 8 -> thing.steps.size();
            case 9 -> atTest(good);
            case 10 -> matrices() == null ? 0 : 1;
            case 12 -> ticks.size();
            case 13 -> claims.size();
            default -> -1;
        };
    }

    Map<String, Integer> valuesOf(int... xyz) {
        Map<String, Integer> values = new HashMap<>();
        for (int i = 0; i < thing.spans.get(0).size(); i++) {
            values.put(thing.spans.get(0).get(i).name, xyz[i]);
        }
        return values;
    }

    int cell(int x, int y, int z) {
        return thing == null ? -1 : cells.indexOf(valuesOf(x, y, z));
    }

    int state(int cell, int i) {
        if (!isCell(cell) || i < 0 || i >= thing.spans.get(0).size()) {
            return Integer.MIN_VALUE;
        }
        return cells.get(cell).get(thing.spans.get(0).get(i).name);
    }

    int push(int push, int i) {
        if (!isPush(push) || i < 0 || i >= thing.spans.get(1).size()) {
            return Integer.MIN_VALUE;
        }
        return pushes.get(push).get(thing.spans.get(1).get(i).name);
    }

    int lead(int cell, Map<String, Integer> push, Map<String, Integer> world) {
        Map<String, Integer> values = new HashMap<>(cells.get(cell));
        values.putAll(push);
        values.putAll(world);
        Map<String, Integer> then = new HashMap<>(cells.get(cell));
        Set<String> done = new HashSet<>();
        for (Step step : thing.steps) {
            if (!done.contains(step.name) && holds(step.test, values)) {
                done.add(step.name);
                then.put(step.name, worth(step.sum, values));
            }
        }
        int found = cells.indexOf(then);
        return found < 0 ? -2 : found;
    }

    int leadOf(int cell, int push, int world) {
        String key = cell + " " + push + " " + world;
        Integer known = leads.get(key);
        if (known == null) {
            known = lead(cell, pushes.get(push), worlds.get(world));
            leads.put(key, known);
        }
        return known;
    }

    int next(int cell, int push, int world) {
        if (!isCell(cell) || !isPush(push) || !isWorld(world)) {
            return refuse(1);
        }
        trouble = 0;
        return leadOf(cell, push, world);
    }

    int sight(int cell, int push, int world, int i) {
        if (!isCell(cell) || !isPush(push) || !isWorld(world) || i < 0 || i >= thing.sights.size()) {
            return Integer.MIN_VALUE;
        }
        Map<String, Integer> values = new HashMap<>(cells.get(cell));
        values.putAll(pushes.get(push));
        values.putAll(worlds.get(world));
        return worth(new ArrayList<>(thing.sights.values()).get(i), values);
    }

    // ---- wishes

    boolean isGood(int cell) {
        return holds(good, cells.get(cell));
    }

    boolean isGoal(int cell) {
        return goal != null && holds(goal, cells.get(cell));
    }

    boolean into(int cell, int push, List<Map<String, Integer>> by, Set<Integer> set) {
        for (Map<String, Integer> world : by) {
            if (!set.contains(lead(cell, pushes.get(push), world))) {
                return false;
            }
        }
        return true;
    }

    boolean intoPlain(int cell, int push, Set<Integer> set) {
        for (int world = 0; world < worlds.size(); world++) {
            if (!set.contains(leadOf(cell, push, world))) {
                return false;
            }
        }
        return true;
    }

    /** The set that is left after every round, the first one being all good cells. */
    List<Set<Integer>> rounds() {
        List<Set<Integer>> sets = new ArrayList<>();
        Set<Integer> now = new TreeSet<>();
        for (int cell = 0; cell < cells.size(); cell++) {
            if (isGood(cell)) {
                now.add(cell);
            }
        }
        while (sets.isEmpty() || !sets.get(sets.size() - 1).equals(now)) {
            sets.add(now);
            Set<Integer> left = new TreeSet<>();
            for (int cell : now) {
                for (int push = 0; push < pushes.size(); push++) {
                    if (intoPlain(cell, push, now)) {
                        left.add(cell);
                    }
                }
            }
            now = left;
        }
        return sets;
    }

    Set<Integer> safeSet(int wider) {
        if (safeBy.containsKey(wider)) {
            return safeBy.get(wider);
        }
        Set<Integer> now = new TreeSet<>();
        for (int cell = 0; cell < cells.size(); cell++) {
            if (isGood(cell)) {
                now.add(cell);
            }
        }
        List<Map<String, Integer>> by = worldsBy(wider);
        boolean went = true;
        while (went) {
            went = false;
            for (int cell : new ArrayList<>(now)) {
                boolean any = false;
                for (int push = 0; push < pushes.size() && !any; push++) {
                    any = wider == 0 ? intoPlain(cell, push, now) : into(cell, push, by, now);
                }
                if (!any) {
                    now.remove(cell);
                    went = true;
                }
            }
        }
        safeBy.put(wider, now);
        return now;
    }

    int safe() {
        if (thing == null) {
            return refuse(1);
        }
        trouble = 0;
        return safeSet(0).size();
    }

    int layer(int cell) {
        if (!isCell(cell)) {
            return -1;
        }
        List<Set<Integer>> sets = rounds();
        if (!sets.get(0).contains(cell)) {
            return -2;
        }
        for (int i = 1; i < sets.size(); i++) {
            if (!sets.get(i).contains(cell)) {
                return i;
            }
        }
        return 0;
    }

    int allowed(int cell) {
        if (!isCell(cell)) {
            return -1;
        }
        int bits = 0;
        for (int push = 0; push < pushes.size() && safeSet(0).contains(cell); push++) {
            bits |= intoPlain(cell, push, safeSet(0)) ? 1 << push : 0;
        }
        return bits;
    }

    /** TICKS and LAW of every cell. */
    Map<Integer, int[]> reaches() {
        Map<Integer, int[]> known = new HashMap<>();
        for (int cell = 0; cell < cells.size(); cell++) {
            if (isGood(cell) && isGoal(cell)) {
                known.put(cell, new int[] {0, -2});
            }
        }
        for (int k = 1; k <= cells.size(); k++) {
            Map<Integer, int[]> more = new HashMap<>();
            for (int cell = 0; cell < cells.size(); cell++) {
                for (int push = 0; push < pushes.size() && isGood(cell) && !known.containsKey(cell)
                        && !more.containsKey(cell); push++) {
                    if (intoPlain(cell, push, known.keySet())) {
                        more.put(cell, new int[] {k, push});
                    }
                }
            }
            known.putAll(more);
        }
        return known;
    }

    int ticks(int cell) {
        return !isCell(cell) ? -1 : reaches().getOrDefault(cell, new int[] {-2, -2})[0];
    }

    int law(int cell) {
        return !isCell(cell) ? -1 : reaches().getOrDefault(cell, new int[] {-2, -2})[1];
    }

    int paid(int cell, int push) {
        Map<String, Integer> values = new HashMap<>(cells.get(cell));
        values.putAll(pushes.get(push));
        return cost == null ? 0 : Math.max(0, Math.min(1000, worth(cost, values)));
    }

    /** BEST and its LAW. */
    int[] bestOf(int cell, int h) {
        if (cell < 0 || !isGood(cell)) {
            return new int[] {1000000, -2};
        }
        if (h == 0) {
            return new int[] {0, -2};
        }
        String key = cell + " " + h;
        if (!bests.containsKey(key)) {
            int[] best = {Integer.MAX_VALUE, -2};
            for (int push = 0; push < pushes.size(); push++) {
                int most = 0;
                for (int world = 0; world < worlds.size(); world++) {
                    most = Math.max(most, bestOf(leadOf(cell, push, world), h - 1)[0]);
                }
                int all = Math.min(1000000, paid(cell, push) + most);
                if (all < best[0]) {
                    best = new int[] {all, push};
                }
            }
            bests.put(key, best);
        }
        return bests.get(key);
    }

    int best(int cell, int horizon) {
        if (!isCell(cell)) {
            return refuse(1);
        }
        if (horizon < 0 || horizon > 20) {
            return refuse(2);
        }
        trouble = 0;
        return bestOf(cell, horizon)[0];
    }

    int bestLaw(int cell, int horizon) {
        if (!isCell(cell)) {
            return refuse(1);
        }
        if (horizon < 1 || horizon > 20) {
            return refuse(2);
        }
        trouble = 0;
        return bestOf(cell, horizon)[1];
    }

    int worst(int cell, int horizon, int i) {
        if (!isCell(cell) || horizon < 1 || horizon > 20 || i < 0 || i >= horizon) {
            throw new NoSuchElementException();
        }
        int here = cell;
        for (int k = 0;; k++) {
            if (here < 0 || !isGood(here)) {
                return -2;
            }
            int push = bestOf(here, horizon - k)[1];
            int chosen = 0;
            for (int world = 1; world < worlds.size(); world++) {
                if (bestOf(leadOf(here, push, world), horizon - k - 1)[0]
                        > bestOf(leadOf(here, push, chosen), horizon - k - 1)[0]) {
                    chosen = world;
                }
            }
            if (k == i) {
                return chosen;
            }
            here = leadOf(here, push, chosen);
        }
    }

    int margin(int cell) {
        if (!isCell(cell)) {
            return -1;
        }
        return !safeSet(0).contains(cell) ? -2 : !safeSet(1).contains(cell) ? 0 : !safeSet(2).contains(cell) ? 1 : 2;
    }

    // ---- linear

    /** A, B, C; null if the thing isn't linear. */
    long[][][] matrices() {
        int n = thing.spans.get(0).size();
        long[][] a = new long[n][n];
        long[][] b = new long[n][thing.spans.get(1).size()];
        long[][] c = new long[thing.sights.size()][n];
        Set<String> stepped = new HashSet<>();
        for (Step step : thing.steps) {
            int i = indexOf(0, step.name);
            if (!step.test.isEmpty() || !stepped.add(step.name) || !collect(step.sum, a[i], b[i])) {
                return null;
            }
        }
        for (int i = 0; i < n; i++) {
            if (!stepped.contains(thing.spans.get(0).get(i).name)) {
                a[i][i] = 1;
            }
        }
        int j = 0;
        for (List<Term> sum : thing.sights.values()) {
            if (!collect(sum, c[j], new long[2])) {
                return null;
            }
            j++;
        }
        for (long[][] matrix : new long[][][] {a, b, c}) {
            for (long[] row : matrix) {
                for (long x : row) {
                    if (Math.abs(x) > 20) {
                        return null;
                    }
                }
            }
        }
        return new long[][][] {a, b, c};
    }

    int indexOf(int kind, String name) {
        for (int i = 0; i < thing.spans.get(kind).size(); i++) {
            if (thing.spans.get(kind).get(i).name.equals(name)) {
                return i;
            }
        }
        return -1;
    }

    boolean collect(List<Term> sum, long[] states, long[] others) {
        for (Term term : sum) {
            List<String> movers = new ArrayList<>();
            BigInteger rest = BigInteger.valueOf(term.minus ? -1 : 1);
            for (Factor factor : term.factors) {
                if (factor.name == null) {
                    rest = rest.multiply(BigInteger.valueOf(factor.whole));
                } else if (indexOf(3, factor.name) >= 0) {
                    rest = rest.multiply(BigInteger.valueOf(thing.spans.get(3).get(indexOf(3, factor.name)).low));
                } else {
                    movers.add(factor.name);
                }
            }
            if (movers.size() > 1) {
                return false;
            }
            if (movers.size() == 1) {
                if (rest.abs().compareTo(BigInteger.valueOf(20)) > 0) {
                    return false;
                }
                if (indexOf(0, movers.get(0)) >= 0) {
                    states[indexOf(0, movers.get(0))] += rest.longValue();
                } else if (indexOf(1, movers.get(0)) >= 0) {
                    others[indexOf(1, movers.get(0))] += rest.longValue();
                }
            }
        }
        return true;
    }

    static BigInteger[][] times(BigInteger[][] x, BigInteger[][] y) {
        BigInteger[][] z = new BigInteger[x.length][y.length == 0 ? 0 : y[0].length];
        for (int i = 0; i < z.length; i++) {
            for (int j = 0; j < z[i].length; j++) {
                z[i][j] = BigInteger.ZERO;
                for (int k = 0; k < y.length; k++) {
                    z[i][j] = z[i][j].add(x[i][k].multiply(y[k][j]));
                }
            }
        }
        return z;
    }

    static BigInteger[][] big(long[][] x, boolean turned) {
        int columns = x.length == 0 ? 0 : x[0].length;
        BigInteger[][] z = new BigInteger[turned ? columns : x.length][turned ? x.length : columns];
        for (int i = 0; i < x.length; i++) {
            for (int j = 0; j < columns; j++) {
                z[turned ? j : i][turned ? i : j] = BigInteger.valueOf(x[i][j]);
            }
        }
        return z;
    }

    /** The rank by taking rows from one another, in whole numbers. */
    static int rankOf(List<BigInteger[]> rows, int columns) {
        int rank = 0;
        for (int column = 0; column < columns; column++) {
            int pivot = -1;
            for (int i = rank; i < rows.size(); i++) {
                if (rows.get(i)[column].signum() != 0) {
                    pivot = i;
                }
            }
            if (pivot < 0) {
                continue;
            }
            BigInteger[] kept = rows.get(pivot);
            rows.set(pivot, rows.get(rank));
            rows.set(rank, kept);
            for (int i = rank + 1; i < rows.size(); i++) {
                BigInteger[] row = rows.get(i).clone();
                BigInteger by = row[column];
                for (int j = 0; j < columns; j++) {
                    row[j] = row[j].multiply(kept[column]).subtract(kept[j].multiply(by));
                }
                rows.set(i, row);
            }
            rank++;
        }
        return rank;
    }

    int rankBy(boolean seeing) {
        long[][][] abc = matrices();
        int n = abc[0].length;
        BigInteger[][] a = big(abc[0], seeing);
        BigInteger[][] part = seeing ? big(abc[2], true) : big(abc[1], false);
        List<BigInteger[]> rows = new ArrayList<>();
        if (part.length == 0 || part[0].length == 0) {
            return 0;
        }
        for (int i = 0; i < n; i++) {
            for (int j = 0; j < part[0].length; j++) {
                BigInteger[] row = new BigInteger[n];
                for (int k = 0; k < n; k++) {
                    row[k] = part[k][j];
                }
                rows.add(row);
            }
            part = times(a, part);
        }
        return rankOf(rows, n);
    }

    int rank(boolean seeing) {
        if (thing == null) {
            return refuse(1);
        }
        if (matrices() == null) {
            return refuse(5);
        }
        trouble = 0;
        return rankBy(seeing);
    }

    static BigInteger[] plus(BigInteger[] x, BigInteger[] y, int sign) {
        BigInteger[] z = new BigInteger[Math.max(x.length, y.length)];
        for (int i = 0; i < z.length; i++) {
            BigInteger left = i < x.length ? x[i] : BigInteger.ZERO;
            BigInteger right = i < y.length ? y[i] : BigInteger.ZERO;
            z[i] = sign > 0 ? left.add(right) : left.subtract(right);
        }
        return z;
    }

    static BigInteger[] timesForm(BigInteger[] x, BigInteger[] y) {
        BigInteger[] z = new BigInteger[x.length + y.length - 1];
        Arrays.fill(z, BigInteger.ZERO);
        for (int i = 0; i < x.length; i++) {
            for (int j = 0; j < y.length; j++) {
                z[i + j] = z[i + j].add(x[i].multiply(y[j]));
            }
        }
        return z;
    }

    /** det(d z - A), worked out along the first row; with d all of A may be a fraction with one bottom. */
    static BigInteger[] form(BigInteger[][] a, BigInteger d) {
        int n = a.length;
        BigInteger[][][] forms = new BigInteger[n][n][];
        for (int i = 0; i < n; i++) {
            for (int j = 0; j < n; j++) {
                forms[i][j] = i == j ? new BigInteger[] {a[i][j].negate(), d} : new BigInteger[] {a[i][j].negate()};
            }
        }
        return determinant(forms);
    }

    static BigInteger[] determinant(BigInteger[][][] forms) {
        int n = forms.length;
        if (n == 0) {
            return new BigInteger[] {BigInteger.ONE};
        }
        BigInteger[] all = {BigInteger.ZERO};
        for (int j = 0; j < n; j++) {
            BigInteger[][][] smaller = new BigInteger[n - 1][n - 1][];
            for (int i = 1; i < n; i++) {
                for (int k = 0; k < n - 1; k++) {
                    smaller[i - 1][k] = forms[i][k < j ? k : k + 1];
                }
            }
            all = plus(all, timesForm(forms[0][j], determinant(smaller)), j % 2 == 0 ? 1 : -1);
        }
        return all;
    }

    int form(int power) {
        if (thing == null) {
            trouble = 1;
            return Integer.MIN_VALUE;
        }
        if (power < 0 || power > thing.spans.get(0).size()) {
            trouble = 2;
            return Integer.MIN_VALUE;
        }
        if (matrices() == null) {
            trouble = 5;
            return Integer.MIN_VALUE;
        }
        trouble = 0;
        return form(big(matrices()[0], false), BigInteger.ONE)[power].intValueExact();
    }

    /** The answer only; whether the gains do what they should is looked at by placesAsTold(). */
    int place(int... told) {
        if (thing == null) {
            return refuse(1);
        }
        int n = thing.spans.get(0).size();
        for (int i = 0; i < n; i++) {
            if (Math.abs((long) told[i]) > 999) {
                return refuse(2);
            }
        }
        if (matrices() == null || thing.spans.get(1).size() != 1 || rankBy(false) != n) {
            return refuse(5);
        }
        trouble = 0;
        return n;
    }

    /** Whether A and B times these gains have the told form, and the gains are in lowest terms. */
    boolean placesAsTold(int[] told, long[] tops, long[] bottoms) {
        long[][][] abc = matrices();
        int n = abc[0].length;
        BigInteger d = BigInteger.ONE;
        for (int i = 0; i < n; i++) {
            BigInteger top = BigInteger.valueOf(tops[i]);
            BigInteger bottom = BigInteger.valueOf(bottoms[i]);
            if (bottom.signum() <= 0 || !top.gcd(bottom).equals(BigInteger.ONE)) {
                return false;
            }
            d = d.multiply(bottom);
        }
        BigInteger[][] closed = new BigInteger[n][n];
        for (int i = 0; i < n; i++) {
            for (int j = 0; j < n; j++) {
                BigInteger gain = BigInteger.valueOf(tops[j]).multiply(d).divide(BigInteger.valueOf(bottoms[j]));
                closed[i][j] = BigInteger.valueOf(abc[0][i][j]).multiply(d)
                        .add(BigInteger.valueOf(abc[1][i][0]).multiply(gain));
            }
        }
        BigInteger[] form = form(closed, d);
        for (int i = 0; i < n; i++) {
            if (!form[i].equals(BigInteger.valueOf(told[i]).multiply(d.pow(n)))) {
                return false;
            }
        }
        return form[n].equals(d.pow(n));
    }

    /** By z = (1 + w) / (1 - w) the circle becomes the half where w is negative; there Hurwitz tells. */
    static boolean within(long[] p) {
        int n = 3;
        while (p[n] == 0) {
            n--;
        }
        BigInteger[] all = {BigInteger.ZERO};
        BigInteger[] up = {BigInteger.ONE, BigInteger.ONE};
        BigInteger[] down = {BigInteger.ONE, BigInteger.ONE.negate()};
        for (int k = 0; k <= n; k++) {
            BigInteger[] part = {BigInteger.valueOf(p[k])};
            for (int i = 0; i < n; i++) {
                part = timesForm(part, i < k ? up : down);
            }
            all = plus(all, part, 1);
        }
        int sign = all[n].signum();
        for (int i = 0; i <= n; i++) {
            if (all[i].signum() == 0 || all[i].signum() != sign) {
                return false;
            }
        }
        return n < 3 || all[1].multiply(all[2]).compareTo(all[0].multiply(all[3])) > 0;
    }

    int stays(int... p) {
        long[] factors = new long[4];
        boolean any = false;
        for (int i = 0; i < 4; i++) {
            factors[i] = p[i];
            any |= p[i] != 0;
            if (Math.abs(factors[i]) > 999) {
                return refuse(2);
            }
        }
        if (!any) {
            return refuse(2);
        }
        trouble = 0;
        return within(factors) ? 1 : 0;
    }

    // ---- the watcher

    int tick(int push) {
        if (!isPush(push)) {
            return refuse(1);
        }
        if (ticks.size() == 30) {
            return refuse(3);
        }
        trouble = 0;
        ticks.add(push);
        return ticks.size();
    }

    boolean told(int tick, int sight, int value) {
        if (thing == null || tick < 0 || tick > ticks.size() || sight < 0 || sight >= thing.sights.size()) {
            trouble = 1;
            return false;
        }
        for (int[] each : tellings) {
            if (each[0] == tick && each[1] == sight) {
                trouble = 5;
                return false;
            }
        }
        trouble = 0;
        tellings.add(new int[] {tick, sight, value, ticks.size()});
        return true;
    }

    /** Pairs of a cell and a choice of nums that can be at a tick, by what was told up to a tick. */
    Set<List<Integer>> canAt(int tick, int until, int fault) {
        int nums = nums();
        List<Map<String, Integer>> numRows = thing.all(thing.spans.get(3), 0);
        Set<List<Integer>> now = new HashSet<>();
        Map<String, Integer> still = new HashMap<>();
        for (Named push : thing.spans.get(1)) {
            still.put(push.name, 0);
        }
        for (Named world : thing.spans.get(2)) {
            still.put(world.name, world.low);
        }
        for (int cell = 0; cell < cells.size(); cell++) {
            for (int num = 0; num < nums; num++) {
                Map<String, Integer> values = new HashMap<>(still);
                values.putAll(numRows.get(num));
                if (isGood(cell) && seen(0, until, fault, cell, values)) {
                    now.add(List.of(cell, num));
                }
            }
        }
        for (int t = 1; t <= tick; t++) {
            int done = ticks.get(t - 1);
            if (fault >= 1 && fault <= thing.spans.get(1).size()) {
                done = failing(done, fault);
            }
            Map<String, Integer> push = pushes.get(done);
            Set<List<Integer>> then = new HashSet<>();
            for (List<Integer> pair : now) {
                for (int world = pair.get(1); world < worlds.size(); world += nums) {
                    int next = leadOf(pair.get(0), done, world);
                    Map<String, Integer> values = new HashMap<>(push);
                    values.putAll(worlds.get(world));
                    if (next >= 0 && seen(t, until, fault, next, values)) {
                        then.add(List.of(next, pair.get(1)));
                    }
                }
            }
            now = then;
        }
        return now;
    }

    /** The push that is done if part by of the told one fails. */
    int failing(int told, int by) {
        Map<String, Integer> push = new HashMap<>(pushes.get(told));
        Named failing = thing.spans.get(1).get(by - 1);
        push.put(failing.name, failing.low > 0 ? failing.low : failing.high < 0 ? failing.high : 0);
        return pushes.indexOf(push);
    }

    /** A sight of the first cell. */
    int firstSight(int cell, int num, int i) {
        Map<String, Integer> values = new HashMap<>(cells.get(cell));
        for (Named push : thing.spans.get(1)) {
            values.put(push.name, 0);
        }
        for (Named world : thing.spans.get(2)) {
            values.put(world.name, world.low);
        }
        values.putAll(thing.all(thing.spans.get(3), 0).get(num));
        return worth(new ArrayList<>(thing.sights.values()).get(i), values);
    }

    boolean seen(int tick, int until, int fault, int cell, Map<String, Integer> others) {
        Map<String, Integer> values = new HashMap<>(others);
        values.putAll(cells.get(cell));
        List<List<Term>> sums = new ArrayList<>(thing.sights.values());
        for (int[] each : tellings) {
            if (each[0] == tick && each[3] <= until) {
                boolean fails = fault == thing.spans.get(1).size() + 1 + each[1];
                if (each[2] != (fails ? 0 : worth(sums.get(each[1]), values))) {
                    return false;
                }
            }
        }
        return true;
    }

    static Set<Integer> part(Set<List<Integer>> pairs, int which) {
        Set<Integer> parts = new TreeSet<>();
        for (List<Integer> pair : pairs) {
            parts.add(pair.get(which));
        }
        return parts;
    }

    Set<Integer> canNow(int fault) {
        return part(canAt(ticks.size(), ticks.size(), fault), 0);
    }

    int can(int by) {
        if (thing == null || by < 0 || by > thing.spans.get(1).size() + thing.sights.size()) {
            return refuse(1);
        }
        trouble = 0;
        return canNow(by).size();
    }

    int canBe(int cell) {
        return !isCell(cell) ? -1 : canNow(0).contains(cell) ? 1 : 0;
    }

    int guess(int state, boolean most) {
        if (thing == null || state < 0 || state >= thing.spans.get(0).size() || canNow(0).isEmpty()) {
            return Integer.MIN_VALUE;
        }
        TreeSet<Integer> values = new TreeSet<>();
        for (int cell : canNow(0)) {
            values.add(state(cell, state));
        }
        return most ? values.last() : values.first();
    }

    int named() {
        if (thing == null) {
            return refuse(1);
        }
        trouble = 0;
        List<Integer> left = new ArrayList<>();
        for (int by = 0; by <= thing.spans.get(1).size() + thing.sights.size(); by++) {
            if (!canNow(by).isEmpty()) {
                left.add(by);
            }
        }
        return left.isEmpty() ? -3 : left.size() > 1 ? -2 : left.get(0);
    }

    int known(int tick) {
        if (thing == null || tick < 0 || tick > ticks.size()) {
            return -1;
        }
        return part(canAt(tick, tick, 0), 0).size();
    }

    Set<Integer> fitting() {
        return part(canAt(ticks.size(), ticks.size(), 0), 1);
    }

    int fit() {
        if (thing == null) {
            return refuse(1);
        }
        trouble = 0;
        return fitting().size();
    }

    int probe(int cell) {
        if (!isCell(cell)) {
            return refuse(1);
        }
        int bits = allowed(cell);
        if (bits == 0) {
            return refuse(5);
        }
        trouble = 0;
        int chosen = -1;
        int most = -1;
        for (int push = 0; push < pushes.size(); push++) {
            Set<Integer> different = new HashSet<>();
            for (int num : fitting()) {
                different.add(leadOf(cell, push, num));
            }
            if ((bits >> push & 1) == 1 && different.size() > most) {
                most = different.size();
                chosen = push;
            }
        }
        return chosen;
    }

    int anew() {
        if (thing == null) {
            return refuse(1);
        }
        trouble = 0;
        int had = ticks.size();
        ticks.clear();
        tellings.clear();
        return had;
    }

    // ---- code and claims

    boolean code(int... told) {
        trouble = thing == null ? 1 : thing.spans.get(1).size() != 1 ? 5 : 0;
        for (int i = 0; i < 5 && trouble == 0; i++) {
            if (told[i] < (i == 4 ? 0 : -128) || told[i] > (i == 4 ? 7 : 127)) {
                trouble = 2;
            }
        }
        if (trouble == 0) {
            code = told.clone();
        }
        return trouble == 0;
    }

    int codePush(int cell) {
        int sum = code[3];
        for (int i = 0; i < thing.spans.get(0).size(); i++) {
            sum += code[i] * state(cell, i);
        }
        int half = code[4] == 0 ? 0 : 1 << code[4] - 1;
        int value = Math.floorDiv(sum + half, 1 << code[4]);
        Named push = thing.spans.get(1).get(0);
        return Math.min(push.high, Math.max(push.low, value)) - push.low;
    }

    int coded(int cell) {
        if (!isCell(cell)) {
            return refuse(1);
        }
        if (thing.spans.get(1).size() != 1) {
            return refuse(5);
        }
        trouble = 0;
        return codePush(cell);
    }

    int strays() {
        if (thing == null) {
            return refuse(1);
        }
        if (thing.spans.get(1).size() != 1) {
            return refuse(5);
        }
        trouble = 0;
        int count = 0;
        for (int cell : safeSet(0)) {
            count += (allowed(cell) >> codePush(cell) & 1) == 0 ? 1 : 0;
        }
        return count;
    }

    int walk(int cell) {
        if (!isCell(cell)) {
            return refuse(1);
        }
        if (thing.spans.get(1).size() != 1) {
            return refuse(5);
        }
        trouble = 0;
        List<Integer> way = new ArrayList<>();
        int here = cell;
        while (here >= 0 && !way.contains(here)) {
            way.add(here);
            here = leadOf(here, codePush(here), 0);
        }
        return here < 0 ? -2 : way.size() - way.indexOf(here);
    }

    boolean claim(int cell, int number) {
        trouble = !isCell(cell) ? 1 : number < -1 || number > 999 ? 2 : 0;
        if (trouble == 0) {
            claims.remove(cell);
            if (number >= 0) {
                claims.put(cell, number);
            }
        }
        return trouble == 0;
    }

    int firstBreak() {
        for (int cell : new TreeSet<>(claims.keySet())) {
            int claim = claims.get(cell);
            Set<Integer> less = new HashSet<>();
            for (Map.Entry<Integer, Integer> each : claims.entrySet()) {
                if (each.getValue() < claim) {
                    less.add(each.getKey());
                }
            }
            boolean fine = claim == 0 && isGoal(cell);
            for (int push = 0; push < pushes.size() && claim > 0 && !fine; push++) {
                fine = intoPlain(cell, push, less);
            }
            if (!fine || !isGood(cell)) {
                return cell;
            }
        }
        return -2;
    }

    int proved(int cell) {
        if (!isCell(cell)) {
            return refuse(1);
        }
        trouble = 0;
        return claims.containsKey(cell) && firstBreak() == -2 ? 1 : 0;
    }

    int breaks() {
        if (thing == null) {
            return refuse(1);
        }
        trouble = 0;
        return firstBreak();
    }
}
