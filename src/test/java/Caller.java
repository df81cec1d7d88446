import java.lang.reflect.Method;
import java.util.Random;

/** Draws calls with their arguments, and makes them on a BidMosaic or on a PlainMosaic. */
final class Caller {
    private static final String[] NAMES = {"mode", "shrink", "stock", "drop", "kind", "find", "cell", "change",
        "remove", "difference", "auction", "repair", "phase", "place", "slot", "gain", "total", "image", "restore", "told"};
    /** How often each call is drawn, out of all: what builds, more than what tears down. */
    private static final int[] WEIGHTS = {1, 1, 10, 1, 8, 3, 9, 16, 2, 4, 10, 12, 8, 8, 10, 10, 8, 2, 2, 10};
    private static final int[] FAR_OFF = {-1, -2, -6, 16, 17, 10000, 10001, 99, 100, 112, Integer.MIN_VALUE,
        Integer.MIN_VALUE + 100, Integer.MAX_VALUE};

    private final Random random;
    private final int[] pool;
    int call;
    int first;
    int second;

    Caller(long seed) {
        random = new Random(seed);
        // A small pool makes CELLS and KINDS meet; a pool of near ones makes long wars of bids.
        pool = new int[2 + random.nextInt(14)];
        boolean near = random.nextBoolean();
        for (int i = 0; i < pool.length; i++) {
            pool[i] = near ? 1000 * random.nextInt(2) + 9 * random.nextInt(2) : random.nextInt(10000);
        }
    }

    void draw() {
        int sum = 0;
        for (int weight : WEIGHTS) {
            sum += weight;
        }
        int left = random.nextInt(sum);
        call = 0;
        while (left >= WEIGHTS[call]) {
            left -= WEIGHTS[call++];
        }
        first = firstArgument();
        second = secondArgument();
    }

    private int firstArgument() {
        if (random.nextInt(25) == 0) {
            return FAR_OFF[random.nextInt(FAR_OFF.length)];
        }
        switch (NAMES[call]) {
            case "mode": case "image": case "restore":
                return random.nextInt(2);
            case "shrink":
                return 1 + random.nextInt(10);
            case "stock": case "drop": case "find": case "cell":
                return dots();
            case "kind": case "phase":
                return random.nextInt(9);
            case "told":
                return random.nextInt(3) == 0 ? 100 + random.nextInt(13) : random.nextInt(10);
            case "slot":
                return random.nextInt(17);
            default:
                return random.nextInt(13);
        }
    }

    private int secondArgument() {
        if (random.nextInt(25) == 0) {
            return FAR_OFF[random.nextInt(FAR_OFF.length)];
        }
        switch (NAMES[call]) {
            case "stock":
                return 1 + random.nextInt(4);
            case "change":
                return dots();
            case "difference":
                return random.nextInt(9);
            default:
                return random.nextInt(4);
        }
    }

    private int dots() {
        return random.nextInt(8) == 0 ? random.nextInt(10000) : pool[random.nextInt(pool.length)];
    }

    String text() {
        return NAMES[call] + "(" + first + ", " + second + ")";
    }

    int on(Object x) {
        return make(x, NAMES[call], first, second);
    }

    /** Makes a call on an object of either class, with as many of the arguments as it takes. */
    static int make(Object x, String name, int... arguments) {
        try {
            for (Method method : x.getClass().getDeclaredMethods()) {
                if (method.getName().equals(name)) {
                    Object[] taken = new Object[method.getParameterCount()];
                    for (int i = 0; i < taken.length; i++) {
                        taken[i] = arguments[i];
                    }
                    return (Integer) method.invoke(x, taken);
                }
            }
            throw new IllegalStateException("no method " + name);
        } catch (ReflectiveOperationException e) {
            throw new IllegalStateException(name, e.getCause());
        }
    }
}
