import java.util.ArrayList;
import java.util.List;
import java.util.TreeSet;

/**
 * The document once more, written without a thought of speed or room, for comparison: lists, a set of
 * those who are free, and every WORTH worked out again whenever it is asked for.
 */
final class PlainMosaic {
    private static final int UNKNOWN = -1, OUTSIDE = -2, STATE = -3, FULL = -4, NO = -5, NONE = -6;
    private static final int GONE = -100000000;

    /** Records all that an image keeps. */
    private static final class Room {
        int mode = 0;
        int shrink = 4;
        List<String> kindDots = new ArrayList<>();
        List<Integer> kindStock = new ArrayList<>();
        List<String> cells = new ArrayList<>();
        boolean valid;
        boolean done;
        int lastBids;
        List<int[]> phases = new ArrayList<>();
        List<Integer> slotKind = new ArrayList<>();
        List<Long> price = new ArrayList<>();
        List<Integer> slotBidder = new ArrayList<>();

        Room copy() {
            Room r = new Room();
            r.mode = mode;
            r.shrink = shrink;
            r.kindDots.addAll(kindDots);
            r.kindStock.addAll(kindStock);
            r.cells.addAll(cells);
            r.valid = valid;
            r.done = done;
            r.lastBids = lastBids;
            r.phases.addAll(phases);
            r.slotKind.addAll(slotKind);
            r.price.addAll(price);
            r.slotBidder.addAll(slotBidder);
            return r;
        }
    }

    private Room r = new Room();
    private final Room[] kept = new Room[2];

    private static String text(int dots) {
        return dots < 0 || dots > 9999 ? null : String.format("%04d", dots);
    }

    private int apart(String a, String b) {
        int sum = 0;
        for (int i = 0; i < 4; i++) {
            int d = a.charAt(i) - b.charAt(i);
            sum += r.mode == 0 ? Math.max(d, -d) : d * d;
        }
        return sum;
    }

    private boolean isKind(int kind) {
        return 0 <= kind && kind < r.kindDots.size();
    }

    private boolean isCell(int cell) {
        return 0 <= cell && cell < r.cells.size();
    }

    private int slots() {
        return r.kindStock.stream().mapToInt(Integer::intValue).sum();
    }

    int mode(int m) {
        if (m < 0 || m > 1) {
            return OUTSIDE;
        }
        int was = r.mode;
        r.mode = m;
        r.valid = r.valid && was == m;
        return was;
    }

    int shrink(int f) {
        if (f < 2 || f > 9) {
            return OUTSIDE;
        }
        int was = r.shrink;
        r.shrink = f;
        return was;
    }

    int stock(int dots, int n) {
        String d = text(dots);
        if (d == null || n < 1 || n > 4) {
            return OUTSIDE;
        }
        int at = r.kindDots.indexOf(d);
        int had = at < 0 ? 0 : r.kindStock.get(at);
        if (at < 0 && r.kindDots.size() == 8 || had + n > 4 || slots() + n > 16) {
            return FULL;
        }
        if (at < 0) {
            r.kindDots.add(d);
            r.kindStock.add(n);
        } else {
            r.kindStock.set(at, had + n);
        }
        r.valid = false;
        return had + n;
    }

    int drop(int dots) {
        String d = text(dots);
        if (d == null) {
            return OUTSIDE;
        }
        int at = r.kindDots.indexOf(d);
        if (at < 0) {
            return NO;
        }
        r.kindDots.remove(at);
        r.kindStock.remove(at);
        r.valid = false;
        return r.kindDots.size();
    }

    int kind(int kind, int what) {
        if (!isKind(kind)) {
            return UNKNOWN;
        }
        if (what < 0 || what > 3) {
            return OUTSIDE;
        }
        if (what == 0) {
            return Integer.parseInt(r.kindDots.get(kind));
        }
        if (what == 1) {
            return r.kindStock.get(kind);
        }
        if (what == 2) {
            return r.kindStock.subList(0, kind).stream().mapToInt(Integer::intValue).sum();
        }
        int have = 0;
        for (int slot = 0; r.valid && r.done && slot < r.slotKind.size(); slot++) {
            if (r.slotKind.get(slot) == kind && isCell(r.slotBidder.get(slot))) {
                have++;
            }
        }
        return have;
    }

    int find(int dots) {
        String d = text(dots);
        if (d == null) {
            return OUTSIDE;
        }
        int at = r.kindDots.indexOf(d);
        return at < 0 ? NONE : at;
    }

    int cell(int dots) {
        String d = text(dots);
        if (d == null) {
            return OUTSIDE;
        }
        if (r.cells.size() == 12) {
            return FULL;
        }
        r.cells.add(d);
        r.valid = false;
        return r.cells.size();
    }

    int change(int cell, int dots) {
        if (!isCell(cell)) {
            return UNKNOWN;
        }
        String d = text(dots);
        if (d == null) {
            return OUTSIDE;
        }
        String was = r.cells.set(cell, d);
        r.done = r.done && was.equals(d);
        return Integer.parseInt(was);
    }

    int remove(int cell) {
        if (!isCell(cell)) {
            return UNKNOWN;
        }
        r.cells.remove(cell);
        r.valid = false;
        return r.cells.size();
    }

    int difference(int cell, int kind) {
        return isCell(cell) && isKind(kind) ? apart(r.cells.get(cell), r.kindDots.get(kind)) : UNKNOWN;
    }

    private long gainOf(int bidder, int slot) {
        long worth = 0;
        if (isCell(bidder)) {
            worth -= (long) apart(r.cells.get(bidder), r.kindDots.get(r.slotKind.get(slot))) * (r.slotKind.size() + 1);
        }
        return worth - r.price.get(slot);
    }

    private long greatest(int bidder, int without) {
        long most = Long.MIN_VALUE;
        for (int slot = 0; slot < r.slotKind.size(); slot++) {
            if (slot != without) {
                most = Math.max(most, gainOf(bidder, slot));
            }
        }
        return most;
    }

    private int bidding(TreeSet<Integer> free, long step) {
        int bids = 0;
        while (!free.isEmpty()) {
            int bidder = free.pollFirst();
            long most = greatest(bidder, -1);
            int best = 0;
            while (gainOf(bidder, best) != most) {
                best++;
            }
            long second = r.slotKind.size() == 1 ? most : greatest(bidder, best);
            r.price.set(best, r.price.get(best) + most - second + step);
            int before = r.slotBidder.set(best, bidder);
            if (before >= 0) {
                free.add(before);
            }
            bids++;
        }
        return bids;
    }

    private int sum() {
        int sum = 0;
        for (int slot = 0; slot < r.slotKind.size(); slot++) {
            if (isCell(r.slotBidder.get(slot))) {
                sum += apart(r.cells.get(r.slotBidder.get(slot)), r.kindDots.get(r.slotKind.get(slot)));
            }
        }
        return sum;
    }

    int auction() {
        int n = slots();
        if (n == 0 || n < r.cells.size()) {
            return NO;
        }
        r.slotKind.clear();
        r.price.clear();
        r.slotBidder.clear();
        for (int kind = 0; kind < r.kindDots.size(); kind++) {
            for (int i = 0; i < r.kindStock.get(kind); i++) {
                r.slotKind.add(kind);
                r.price.add(0L);
                r.slotBidder.add(-1);
            }
        }
        int greatest = 0;
        for (String cell : r.cells) {
            for (String kind : r.kindDots) {
                greatest = Math.max(greatest, apart(cell, kind));
            }
        }
        r.phases.clear();
        r.lastBids = 0;
        int step = greatest * (n + 1) / 4;
        while (true) {
            step = Math.max(step, 1);
            TreeSet<Integer> free = new TreeSet<>();
            for (int bidder = 0; bidder < n; bidder++) {
                free.add(bidder);
                r.slotBidder.set(bidder, -1);
            }
            int bids = bidding(free, step);
            r.phases.add(new int[] {step, bids, sum()});
            r.lastBids += bids;
            if (step == 1) {
                break;
            }
            step /= r.shrink;
        }
        r.valid = true;
        r.done = true;
        return r.lastBids;
    }

    int repair() {
        if (!r.valid) {
            return STATE;
        }
        if (r.done) {
            return 0;
        }
        TreeSet<Integer> free = new TreeSet<>();
        for (int slot = 0; slot < r.slotKind.size(); slot++) {
            int bidder = r.slotBidder.get(slot);
            if (gainOf(bidder, slot) < greatest(bidder, -1) - 1) {
                free.add(bidder);
                r.slotBidder.set(slot, -1);
            }
        }
        r.lastBids = bidding(free, 1);
        r.done = true;
        return r.lastBids;
    }

    int phase(int phase, int what) {
        if (!r.valid) {
            return STATE;
        }
        if (phase < 0 || phase >= r.phases.size()) {
            return UNKNOWN;
        }
        return what < 0 || what > 2 ? OUTSIDE : r.phases.get(phase)[what];
    }

    int place(int cell) {
        if (!r.valid || !r.done) {
            return STATE;
        }
        return isCell(cell) ? r.slotKind.get(r.slotBidder.indexOf(cell)) : UNKNOWN;
    }

    int slot(int slot, int what) {
        if (!r.valid || !r.done && what == 2) {
            return STATE;
        }
        if (slot < 0 || slot >= r.slotKind.size()) {
            return UNKNOWN;
        }
        if (what == 0) {
            return Math.toIntExact(r.price.get(slot));
        }
        if (what == 1) {
            return r.slotKind.get(slot);
        }
        if (what != 2) {
            return OUTSIDE;
        }
        int bidder = r.slotBidder.get(slot);
        return isCell(bidder) ? bidder : NONE;
    }

    int gain(int cell, int what) {
        if (!r.valid || !r.done && what == 0) {
            return GONE + STATE;
        }
        if (!isCell(cell)) {
            return GONE + UNKNOWN;
        }
        if (what != 0 && what != 1) {
            return GONE + OUTSIDE;
        }
        return Math.toIntExact(what == 1 ? greatest(cell, -1) : gainOf(cell, r.slotBidder.indexOf(cell)));
    }

    int total() {
        return r.valid && r.done ? sum() : STATE;
    }

    int image(int k) {
        if (k != 0 && k != 1) {
            return OUTSIDE;
        }
        kept[k] = r.copy();
        return 1;
    }

    int restore(int k) {
        if (k != 0 && k != 1) {
            return OUTSIDE;
        }
        if (kept[k] == null) {
            return STATE;
        }
        r = kept[k].copy();
        return 1;
    }

    int told(int what) {
        int valid = r.valid ? 1 : 0;
        int[] plain = {r.mode, r.shrink, r.kindDots.size(), r.cells.size(), slots(), valid,
            r.valid && r.done ? 1 : 0, valid * r.phases.size(), valid * r.lastBids};
        if (what >= 0 && what < plain.length) {
            return plain[what];
        }
        return what >= 100 && isCell(what - 100) ? Integer.parseInt(r.cells.get(what - 100)) : OUTSIDE;
    }
}
