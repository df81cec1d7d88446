import java.lang.management.ManagementFactory;
import java.lang.reflect.Array;
import java.lang.reflect.Field;
import java.lang.reflect.Modifier;
import java.util.Collections;
import java.util.IdentityHashMap;
import java.util.Set;

/** No call throws or fails to end, refusals change nothing, and a run makes few objects. */
final class EdgesTest {
    private static final int[] WILD = {Integer.MIN_VALUE, Integer.MIN_VALUE + 1, Integer.MIN_VALUE + 99,
        Integer.MIN_VALUE + 100, -100000003, -101, -100, -7, -6, -5, -4, -3, -2, -1, 5, 6, 7, 8, 9, 10, 11, 12, 13, 15, 16,
        17, 98, 99, 111, 112, 9999, 10000, 10001, 65536, Integer.MAX_VALUE - 1, Integer.MAX_VALUE};
    private static final String[] STATES = {"new", "no AUCTION", "DONE", "not DONE", "full, DONE", "full, not DONE"};
    private static final Check check = new Check();

    public static void main(String[] args) {
        for (int state = 0; state < STATES.length; state++) {
            nothingThrows(state);
            refusalsChangeNothing(state);
        }
        dearestRepair();
        pricesStayFarFromGone();
        fewObjects();
        roomOfAnObject();
        check.end();
    }

    private static BidMosaic inState(int state) {
        BidMosaic x = new BidMosaic();
        if (state == 0) {
            return x;
        }
        int kinds = state < 4 ? 2 : 8;
        for (int kind = 0; kind < kinds; kind++) {
            x.stock(kind * 1111, 2);
        }
        for (int cell = 0; cell < (state < 4 ? 3 : 12); cell++) {
            x.cell(cell * 700);
        }
        if (state > 1) {
            x.auction();
        }
        if (state == 3 || state == 5) {
            x.change(0, 9999);
        }
        return x;
    }

    private static void nothingThrows(int state) {
        for (int a : WILD) {
            for (int b : WILD) {
                BidMosaic x = inState(state);
                try {
                    all(x, a, b);
                    all(x, b, a);
                    check.holds("all calls end", true);
                } catch (RuntimeException e) {
                    check.holds(STATES[state] + ", " + a + ", " + b + ": " + e, false);
                }
            }
        }
    }

    private static void all(BidMosaic x, int a, int b) {
        x.told(a);
        x.kind(a, b);
        x.difference(a, b);
        x.phase(a, b);
        x.slot(a, b);
        x.gain(a, b);
        x.gain(a, 0);
        x.gain(a, 1);
        x.place(a);
        x.find(a);
        x.change(a, b);
        x.change(a, 5);
        x.repair();
        x.restore(a);
        x.image(a);
        x.mode(a);
        x.shrink(a);
        x.stock(a, b);
        x.stock(a, 1);
        x.drop(a);
        x.cell(a);
        x.remove(a);
        x.auction();
        x.total();
    }

    private static void refusalsChangeNothing(int state) {
        BidMosaic x = inState(state);
        BidMosaic same = inState(state);
        for (int wild : WILD) {
            refused(x.mode(wild));
            refused(wild >= 2 && wild <= 9 ? -1 : x.shrink(wild));
            refused(x.stock(10000, wild));
            refused(x.stock(1, wild < 1 || wild > 4 ? wild : 0));
            refused(x.drop(wild == 9999 ? 9998 : -Math.abs(wild | 1)));
            refused(x.cell(-Math.abs(wild | 1)));
            refused(x.change(wild < 0 || wild > 11 ? wild : 12, 5));
            refused(x.change(0, -Math.abs(wild | 1)));
            refused(x.remove(wild < 0 || wild > 11 ? wild : 12));
            refused(x.image(wild));
            refused(x.restore(wild));
        }
        refused(x.restore(0));
        refused(x.restore(1));
        refused(state == 0 ? x.auction() : -1);
        refused(state < 2 ? x.repair() : -1);
        if (state >= 4) {
            refused(x.cell(1));
            refused(x.stock(1, 1));
            refused(x.stock(0, 1));
        }
        for (int what = 0; what < 9; what++) {
            check.due(STATES[state] + ", told(" + what + ")", x.told(what), same.told(what));
        }
        for (int i = 0; i < 16; i++) {
            check.due(STATES[state] + ", told of a CELL", x.told(100 + i), same.told(100 + i));
            check.due(STATES[state] + ", STOCK", x.kind(i, 1), same.kind(i, 1));
            check.due(STATES[state] + ", PRICE", x.slot(i, 0), same.slot(i, 0));
            check.due(STATES[state] + ", CELL of a SLOT", x.slot(i, 2), same.slot(i, 2));
        }
    }

    private static void refused(int answer) {
        check.holds("refused: " + answer, answer <= BidMosaic.UNKNOWN && answer >= BidMosaic.NO);
    }

    /** Once the last CELL wants 0000 too, twelve CELLS outbid each other by 1 for eleven SLOTS near to it. */
    private static <T> T beforeTheWar(T x) {
        Caller.make(x, "mode", 1);
        int[][] stocks = {{0, 4}, {1, 4}, {10, 3}, {9999, 4}, {9998, 1}};
        for (int[] stock : stocks) {
            Caller.make(x, "stock", stock);
        }
        for (int cell = 0; cell < 12; cell++) {
            Caller.make(x, "cell", cell < 11 ? 0 : 9999);
        }
        Caller.make(x, "auction");
        return x;
    }

    private static void dearestRepair() {
        BidMosaic x = beforeTheWar(new BidMosaic());
        PlainMosaic plain = beforeTheWar(new PlainMosaic());
        x.change(11, 0);
        plain.change(11, 0);
        int bids = x.repair();
        check.due("BIDS of a war", bids, plain.repair());
        check.holds("a war is long: " + bids, bids > 40000 && bids < 200000);
        check.due("DONE", x.told(6), 1);
        check.due("told(8)", x.told(8), bids);
        check.due("total()", x.total(), plain.total());
        for (int slot = 0; slot < 16; slot++) {
            check.due("PRICE of " + slot, x.slot(slot, 0), plain.slot(slot, 0));
            check.due("CELL of " + slot, x.slot(slot, 2), plain.slot(slot, 2));
        }
    }

    private static void pricesStayFarFromGone() {
        BidMosaic x = beforeTheWar(new BidMosaic());
        // 19 calls, 3 each time, and 12: 511, one fewer than the document tells of.
        for (int i = 0; i < 160; i++) {
            for (int cell = 0; cell < 2; cell++) {
                x.change((i * 5 + cell) % 12, (i + cell) % 3 == 0 ? 0 : 9999);
            }
            x.repair();
        }
        for (int cell = 0; cell < 12; cell++) {
            int gain = x.gain(cell, 0);
            check.holds("GAIN " + gain, gain < 0 && gain > BidMosaic.GONE / 10);
        }
    }

    /** All runs share one room: 512 calls, whichever, make no more than the object and its two IMAGES. */
    private static void fewObjects() {
        long most = 0;
        for (int seed = 0; seed < 20; seed++) {
            long before = allocated();
            BidMosaic x = inState(4);
            for (int i = 0; i < 480; i++) {
                x.change(i % 12, i * 37 % 10000);
                x.repair();
                x.image(i % 2);
                x.gain(i % 12, 1);
                x.restore(i % 3);
                x.auction();
                x.total();
            }
            most = seed < 10 ? 0 : Math.max(most, allocated() - before);
        }
        check.holds("bytes made in a run: " + most, most < 16384);
    }

    /** What is there at the end of a run, with both IMAGES: objects and arrays, their fields and elements. */
    private static void roomOfAnObject() {
        BidMosaic x = inState(5);
        x.image(0);
        x.image(1);
        int[] room = new int[2];
        try {
            countRoom(x, Collections.newSetFromMap(new IdentityHashMap<>()), room);
        } catch (IllegalAccessException e) {
            check.holds("all can be counted: " + e, false);
        }
        check.holds("the room is counted: " + room[0] + " objects, " + room[1] + " numbers", room[0] > 5 && room[1] > 100);
        check.holds("objects and arrays: " + room[0], room[0] <= 64);
        check.holds("fields and elements: " + room[1], room[1] <= 1024);
    }

    private static void countRoom(Object thing, Set<Object> seen, int[] room) throws IllegalAccessException {
        if (thing == null || !seen.add(thing)) {
            return;
        }
        room[0]++;
        if (thing.getClass().isArray()) {
            room[1] += Array.getLength(thing);
            for (int i = 0; thing instanceof Object[] && i < Array.getLength(thing); i++) {
                countRoom(Array.get(thing, i), seen, room);
            }
            return;
        }
        for (Field field : thing.getClass().getDeclaredFields()) {
            if (!Modifier.isStatic(field.getModifiers())) {
                room[1]++;
                field.setAccessible(true);
                if (!field.getType().isPrimitive()) {
                    countRoom(field.get(thing), seen, room);
                }
            }
        }
    }

    private static long allocated() {
        java.lang.management.ThreadMXBean bean = ManagementFactory.getThreadMXBean();
        return bean instanceof com.sun.management.ThreadMXBean
            ? ((com.sun.management.ThreadMXBean) bean).getThreadAllocatedBytes(Thread.currentThread().getId()) : 0;
    }
}
