import java.lang.management.ManagementFactory;
import java.lang.reflect.InvocationTargetException;
import java.lang.reflect.Method;
import java.lang.reflect.Modifier;
import java.util.ArrayList;
import java.util.Comparator;
import java.util.List;
import java.util.NoSuchElementException;
import java.util.Random;

/** Any arguments in any state: no call throws but worst(), rows are used again, and two runs answer alike. */
public final class EveryCallTest {
    private static final int[] EDGES = {-2147483648, 2147483647, -1, 0, 1, 2, 3, 19, 20, 21, 29, 30, 31, 399, 400, 401,
        999, 1000, 127, 128, -128, -129, -999, -1000, 26, 27, 32, 64, 536870912, 1073741824};
    private static final String[] TEXTS = {
        "state x 1 to 20; state y 1 to 20; push u -1 to 1; push v -1 to 1; world w 0 to 2; world d 0 to 2; num k 0 to 2; "
            + "sight s = x + w; sight r = y * u + d; x = x + u + w - 1 if x + u + w - 1 < 21 and x + u + w - 1 > 0; "
            + "y = y + v + d - 1 if y + v + d - 1 < 21 and y + v + d - 1 > 0",
        "state x 0 to 0", "state x -20 to 20; push u -4 to 4; x = x + u; sight s = x",
        "state x 0 to 1; state y 0 to 1; state z 0 to 1; push u 0 to 1; x = y; y = z; z = u; sight s = x",
        "state x 0 to 19; state y 0 to 19; push u 0 to 8; num k 0 to 8; num m 0 to 2; x = x + k if x < 10; y = y - m if y > 5",
        "state x", "state x 0 to 1; x = ", "x < 3", "x + u", "x = 1 and y > 0"};

    public static void main(String[] args) throws Exception {
        List<Method> calls = new ArrayList<>();
        for (Method call : SteeringHouse.class.getDeclaredMethods()) {
            if (Modifier.isPublic(call.getModifiers())) {
                calls.add(call);
            }
        }
        calls.sort(Comparator.comparing(Method::getName));
        Checks.due("calls of the face", calls.size(), 46 - 1);
        for (int run = 0; run < 30; run++) {
            Checks.due("run " + run + " is the same twice", play(calls, run), play(calls, run));
        }
        roomIsKept();
        Checks.end("EveryCallTest");
    }

    private static long play(List<Method> calls, int run) throws Exception {
        Random random = new Random(run);
        SteeringHouse house = new SteeringHouse();
        long all = 17;
        for (int i = 0; i < 500; i++) {
            if (random.nextInt(25) == 0 || i == 0 && run % 3 > 0) {
                String text = TEXTS[random.nextInt(i == 0 ? 5 : TEXTS.length)];
                Checks.feed(house, text);
                house.thing(text.length());
            }
            Method call = calls.get(random.nextInt(calls.size()));
            Object[] arguments = new Object[call.getParameterCount()];
            for (int k = 0; k < arguments.length; k++) {
                boolean number = call.getParameterTypes()[k] == int.class;
                arguments[k] = number ? (Object) number(random) : (Object) random.nextBoolean();
            }
            all = all * 31 + answer(call, house, arguments);
        }
        return all;
    }

    private static int number(Random random) {
        return random.nextInt(3) == 0 ? EDGES[random.nextInt(EDGES.length)] : random.nextInt(4);
    }

    private static long answer(Method call, SteeringHouse house, Object[] arguments) throws Exception {
        try {
            Object answer = call.invoke(house, arguments);
            return answer instanceof Boolean yes ? (yes ? 1 : 0) : ((Number) answer).longValue();
        } catch (InvocationTargetException thrown) {
            boolean fine = thrown.getCause() instanceof NoSuchElementException && call.getName().equals("worst");
            Checks.due(call.getName() + " threw " + thrown.getCause(), fine ? 1 : 0, 1);
            return 4711;
        }
    }

    private static long made() {
        return ((com.sun.management.ThreadMXBean) ManagementFactory.getThreadMXBean())
                .getThreadAllocatedBytes(Thread.currentThread().getId());
    }

    /** Rows grow to what the largest thing needs, and are used again. */
    private static void roomIsKept() {
        SteeringHouse house = new SteeringHouse();
        Checks.feed(house, TEXTS[0]);
        all(house);
        long before = made();
        house = new SteeringHouse();
        long born = made() - before;
        Checks.due("a new house is small (" + born + " bytes)", born < 40000 ? 1 : 0, 1);
        Checks.feed(house, TEXTS[0]);
        before = made();
        all(house);
        long grown = made() - before;
        Checks.due("a full house has some 300,000 ints (" + grown + " bytes)", grown < 1300000 ? 1 : 0, 1);
        Checks.feed(house, TEXTS[0]);
        before = made();
        all(house);
        Checks.due("what was made is used again", made() - before < 1000 ? 1 : 0, 1);
    }

    private static void all(SteeringHouse house) {
        house.thing(TEXTS[0].length());
        house.safe();
        house.margin(0);
        house.ticks(0);
        house.best(0, 20);
        house.worst(0, 20, 19);
        for (int tick = 1; tick <= 30; tick++) {
            house.tick(4);
        }
        house.told(30, 0, 5);
        house.named();
        house.known(30);
        house.probe(0);
        house.breaks();
        house.rank(true);
        house.place(0, 0, 0);
        house.stays(1, 2, 3, 4);
        house.strays();
    }
}
