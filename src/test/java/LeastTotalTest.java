import java.util.Arrays;
import java.util.Random;

/** Promises 12, 13, 15 to 18: the total is the least there can be, and the PRICES prove it. */
final class LeastTotalTest {
    private static final Check check = new Check();

    public static void main(String[] args) {
        Random random = new Random(20);
        for (int i = 0; i < 400; i++) {
            BidMosaic x = filled(random);
            check.holds("auction()", x.auction() >= x.told(4));
            proved(x);
            for (int j = 0; j < 4 && x.told(3) > 0; j++) {
                for (int k = random.nextInt(3); k >= 0; k--) {
                    x.change(random.nextInt(x.told(3)), dots(random));
                }
                check.holds("repair()", x.repair() >= 0);
                proved(x);
            }
        }
        check.end();
    }

    private static int dots(Random random) {
        return random.nextBoolean() ? random.nextInt(10000) : 1111 * random.nextInt(10);
    }

    private static BidMosaic filled(Random random) {
        BidMosaic x = new BidMosaic();
        x.mode(random.nextInt(2));
        x.shrink(2 + random.nextInt(8));
        for (int i = random.nextInt(8); i >= 0; i--) {
            x.stock(dots(random), 1 + random.nextInt(4));
        }
        for (int i = random.nextInt(13); i > 0 && x.told(3) < x.told(4); i--) {
            x.cell(dots(random));
        }
        return x;
    }

    private static void proved(BidMosaic x) {
        check.due("total()", x.total(), least(x));
        check.due("the DIFFERENCES of what each has", sumOfPlaces(x), x.total());
        cellsAreContent(x);
        slotsAreTaken(x);
        int have = 0;
        for (int kind = 0; kind < x.told(2); kind++) {
            have += x.kind(kind, 3);
            check.holds("no more than there are", x.kind(kind, 3) <= x.kind(kind, 1));
        }
        check.due("each CELL has one", have, x.told(3));
    }

    private static int sumOfPlaces(BidMosaic x) {
        int sum = 0;
        for (int cell = 0; cell < x.told(3); cell++) {
            sum += x.difference(cell, x.place(cell));
        }
        return sum;
    }

    private static void cellsAreContent(BidMosaic x) {
        int slots = x.told(4);
        for (int cell = 0; cell < x.told(3); cell++) {
            int greatest = Integer.MIN_VALUE;
            for (int slot = 0; slot < slots; slot++) {
                int gain = -x.difference(cell, x.slot(slot, 1)) * (slots + 1) - x.slot(slot, 0);
                greatest = Math.max(greatest, gain);
                if (x.slot(slot, 2) == cell) {
                    check.due("gain(" + cell + ", 0)", x.gain(cell, 0), gain);
                    check.due("place(" + cell + ")", x.place(cell), x.slot(slot, 1));
                }
            }
            check.due("gain(" + cell + ", 1)", x.gain(cell, 1), greatest);
            check.holds("CELL " + cell + " is content", x.gain(cell, 0) >= greatest - 1);
        }
    }

    private static void slotsAreTaken(BidMosaic x) {
        int cheapest = Integer.MAX_VALUE;
        boolean[] seen = new boolean[x.told(3)];
        for (int slot = 0; slot < x.told(4); slot++) {
            cheapest = Math.min(cheapest, x.slot(slot, 0));
        }
        int idle = 0;
        for (int slot = 0; slot < x.told(4); slot++) {
            int cell = x.slot(slot, 2);
            if (cell == BidMosaic.NONE) {
                idle++;
                check.holds("the idle one of SLOT " + slot + " is content", x.slot(slot, 0) <= cheapest + 1);
            } else {
                check.holds("CELL " + cell + " has one SLOT", !seen[cell]);
                seen[cell] = true;
            }
        }
        check.due("idle ones", idle, x.told(4) - x.told(3));
    }

    /** The least sum there can be, over all ways of giving CELLS, one by one, what is left of the KINDS. */
    private static int least(BidMosaic x) {
        int kinds = x.told(2);
        int[] unit = new int[kinds + 1];
        unit[0] = 1;
        for (int kind = 0; kind < kinds; kind++) {
            unit[kind + 1] = unit[kind] * (x.kind(kind, 1) + 1);
        }
        int never = 1000000;
        int[] sums = new int[unit[kinds]];
        Arrays.fill(sums, never);
        sums[0] = 0;
        for (int cell = 0; cell < x.told(3); cell++) {
            int[] next = new int[sums.length];
            Arrays.fill(next, never);
            for (int taken = 0; taken < sums.length; taken++) {
                for (int kind = 0; kind < kinds && sums[taken] < never; kind++) {
                    if (taken / unit[kind] % (x.kind(kind, 1) + 1) < x.kind(kind, 1)) {
                        int then = taken + unit[kind];
                        next[then] = Math.min(next[then], sums[taken] + x.difference(cell, kind));
                    }
                }
            }
            sums = next;
        }
        return Arrays.stream(sums).min().getAsInt();
    }
}
