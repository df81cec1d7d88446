import java.util.Arrays;
import java.util.Random;

/** Promises 12, 13, 15 to 18: the total is the least there can be, and the PRICES prove it. */
final class LeastTotalTest {
    private static final Check check = new Check();

    /** What an object answers, each asked once, as it is used for so many calls only. */
    private static final class Seen {
        final int kinds;
        final int cells;
        final int slots;
        final int total;
        final int[] stock;
        final int[] have;
        final int[][] difference;
        final int[] place;
        final int[][] gain;
        final int[][] slot;

        Seen(BidMosaic x) {
            kinds = x.told(2);
            cells = x.told(3);
            slots = x.told(4);
            total = x.total();
            stock = new int[kinds];
            have = new int[kinds];
            difference = new int[cells][kinds];
            place = new int[cells];
            gain = new int[cells][2];
            slot = new int[slots][3];
            for (int kind = 0; kind < kinds; kind++) {
                stock[kind] = x.kind(kind, 1);
                have[kind] = x.kind(kind, 3);
            }
            for (int cell = 0; cell < cells; cell++) {
                place[cell] = x.place(cell);
                for (int kind = 0; kind < kinds; kind++) {
                    difference[cell][kind] = x.difference(cell, kind);
                }
                for (int what = 0; what < 2; what++) {
                    gain[cell][what] = x.gain(cell, what);
                }
            }
            for (int number = 0; number < slots; number++) {
                for (int what = 0; what < 3; what++) {
                    slot[number][what] = x.slot(number, what);
                }
            }
        }
    }

    public static void main(String[] args) {
        Random random = new Random(20);
        for (int i = 0; i < 400; i++) {
            Run run = filled(random);
            int cells = run.answer("told 3");
            check.holds("auction()", run.answer("auction") >= run.answer("told 4"));
            run = run.then("auction");
            proved(new Seen(run.play()));
            for (int j = 0; j < 4 && cells > 0; j++) {
                for (int k = random.nextInt(3); k >= 0; k--) {
                    run = run.then("change " + random.nextInt(cells) + " " + dots(random));
                }
                check.holds("repair()", run.answer("repair") >= 0);
                run = run.then("repair");
                proved(new Seen(run.play()));
            }
        }
        check.end();
    }

    private static int dots(Random random) {
        return random.nextBoolean() ? random.nextInt(10000) : 1111 * random.nextInt(10);
    }

    private static Run filled(Random random) {
        Run run = new Run(check, "mode " + random.nextInt(2) + "; shrink " + (2 + random.nextInt(8)));
        for (int i = random.nextInt(8); i >= 0; i--) {
            run = run.then("stock " + dots(random) + " " + (1 + random.nextInt(4)));
        }
        int slots = run.answer("told 4");
        for (int i = Math.min(slots, random.nextInt(13)); i > 0; i--) {
            run = run.then("cell " + dots(random));
        }
        return run;
    }

    private static void proved(Seen x) {
        check.due("total()", x.total, least(x));
        check.due("the DIFFERENCES of what each has", sumOfPlaces(x), x.total);
        cellsAreContent(x);
        slotsAreTaken(x);
        int have = 0;
        for (int kind = 0; kind < x.kinds; kind++) {
            have += x.have[kind];
            check.holds("no more than there are", x.have[kind] <= x.stock[kind]);
        }
        check.due("each CELL has one", have, x.cells);
    }

    private static int sumOfPlaces(Seen x) {
        int sum = 0;
        for (int cell = 0; cell < x.cells; cell++) {
            sum += x.difference[cell][x.place[cell]];
        }
        return sum;
    }

    private static void cellsAreContent(Seen x) {
        for (int cell = 0; cell < x.cells; cell++) {
            int greatest = Integer.MIN_VALUE;
            for (int[] slot : x.slot) {
                int gain = -x.difference[cell][slot[1]] * (x.slots + 1) - slot[0];
                greatest = Math.max(greatest, gain);
                if (slot[2] == cell) {
                    check.due("gain(" + cell + ", 0)", x.gain[cell][0], gain);
                    check.due("place(" + cell + ")", x.place[cell], slot[1]);
                }
            }
            check.due("gain(" + cell + ", 1)", x.gain[cell][1], greatest);
            check.holds("CELL " + cell + " is content", x.gain[cell][0] >= greatest - 1);
        }
    }

    private static void slotsAreTaken(Seen x) {
        int cheapest = Integer.MAX_VALUE;
        boolean[] seen = new boolean[x.cells];
        for (int[] slot : x.slot) {
            cheapest = Math.min(cheapest, slot[0]);
        }
        int idle = 0;
        for (int[] slot : x.slot) {
            if (slot[2] == BidMosaic.NONE) {
                idle++;
                check.holds("an idle one is content", slot[0] <= cheapest + 1);
            } else {
                check.holds("CELL " + slot[2] + " has one SLOT", !seen[slot[2]]);
                seen[slot[2]] = true;
            }
        }
        check.due("idle ones", idle, x.slots - x.cells);
    }

    /** The least sum there can be, over all ways of giving CELLS, one by one, what is left of the KINDS. */
    private static int least(Seen x) {
        int[] unit = new int[x.kinds + 1];
        unit[0] = 1;
        for (int kind = 0; kind < x.kinds; kind++) {
            unit[kind + 1] = unit[kind] * (x.stock[kind] + 1);
        }
        int never = 1000000;
        int[] sums = new int[unit[x.kinds]];
        Arrays.fill(sums, never);
        sums[0] = 0;
        for (int cell = 0; cell < x.cells; cell++) {
            int[] next = new int[sums.length];
            Arrays.fill(next, never);
            for (int taken = 0; taken < sums.length; taken++) {
                for (int kind = 0; kind < x.kinds && sums[taken] < never; kind++) {
                    if (taken / unit[kind] % (x.stock[kind] + 1) < x.stock[kind]) {
                        int then = taken + unit[kind];
                        next[then] = Math.min(next[then], sums[taken] + x.difference[cell][kind]);
                    }
                }
            }
            sums = next;
        }
        return Arrays.stream(sums).min().getAsInt();
    }
}
