/**
 * A picture made of small pictures, of which there are only so many of each kind; which cell gets
 * which is found by an auction. The numbered promises of the document say what each call answers.
 */
public final class BidMosaic {
    public static final int UNKNOWN = -1, OUTSIDE = -2, STATE = -3, FULL = -4, NO = -5, NONE = -6;
    public static final int GONE = -100000000;

    private static final int MOST_DOTS = 9999;
    private static final int DOTS_IN_ALL = 4;
    private static final int MOST_KINDS = 8;
    private static final int MOST_OF_A_KIND = 4;
    private static final int MOST_CELLS = 12;
    private static final int MOST_SLOTS = 16;
    private static final int ADDED = 0;
    private static final int SQUARED = 1;
    private static final int LEAST_SHRINK = 2;
    private static final int MOST_SHRINK = 9;
    private static final int FIRST_SHRINK = 4;
    /** The first STEP is a fourth. */
    private static final int FIRST_PART = 4;
    private static final int IMAGES = 2;
    private static final int TOLD_OF_CELLS = 100;

    /** The first STEP is 1377 at the most; halved till it is 1, that makes 11 PHASES. */
    private static final int MOST_PHASES = 16;

    /**
     * In one PHASE a PRICE grows by at most some twice the greatest WORTH (5508), and by 1 at least
     * with each BID: 16 SLOTS take fewer than 200,000 BIDS.
     */
    private static final int MOST_BIDS = 1000000;

    private final Bidding bidding;
    private final Picture now;
    private final Picture[] images;

    public BidMosaic() {
        bidding = new Bidding();
        now = bidding.picture;
        images = new Picture[IMAGES];
    }

    // ---- 1 kinds, cells

    public int mode(int m) {
        if (m != ADDED && m != SQUARED) {
            return OUTSIDE;
        }
        int before = now.mode;
        if (m != before) {
            now.mode = m;
            now.sale.valid = false;
        }
        return before;
    }

    public int shrink(int f) {
        if (f < LEAST_SHRINK || f > MOST_SHRINK) {
            return OUTSIDE;
        }
        int before = now.shrink;
        now.shrink = f;
        return before;
    }

    public int stock(int dots, int n) {
        if (!areDots(dots) || n < 1 || n > MOST_OF_A_KIND) {
            return OUTSIDE;
        }
        if (!now.kinds.hasRoom(dots, n)) {
            return FULL;
        }
        now.sale.valid = false;
        return now.kinds.add(dots, n);
    }

    public int drop(int dots) {
        if (!areDots(dots)) {
            return OUTSIDE;
        }
        int kind = now.kinds.numberOf(dots);
        if (kind == NONE) {
            return NO;
        }
        now.sale.valid = false;
        now.kinds.takeOut(kind);
        return now.kinds.count;
    }

    public int kind(int kind, int what) {
        if (!now.kinds.has(kind)) {
            return UNKNOWN;
        }
        switch (what) {
            case 0:
                return now.kinds.dots[kind];
            case 1:
                return now.kinds.stocks[kind];
            case 2:
                return now.kinds.firstSlot(kind);
            case 3:
                return now.sale.isDone() ? now.cellsThatHave(kind) : 0;
            default:
                return OUTSIDE;
        }
    }

    public int find(int dots) {
        return areDots(dots) ? now.kinds.numberOf(dots) : OUTSIDE;
    }

    public int cell(int dots) {
        if (!areDots(dots)) {
            return OUTSIDE;
        }
        if (now.cells.count >= MOST_CELLS) {
            return FULL;
        }
        now.sale.valid = false;
        now.cells.add(dots);
        return now.cells.count;
    }

    public int change(int cell, int dots) {
        if (!now.cells.has(cell)) {
            return UNKNOWN;
        }
        if (!areDots(dots)) {
            return OUTSIDE;
        }
        int before = now.cells.dots[cell];
        if (dots != before) {
            now.cells.dots[cell] = dots;
            now.sale.content = false;
        }
        return before;
    }

    public int remove(int cell) {
        if (!now.cells.has(cell)) {
            return UNKNOWN;
        }
        now.sale.valid = false;
        now.cells.takeOut(cell);
        return now.cells.count;
    }

    public int difference(int cell, int kind) {
        if (!now.cells.has(cell) || !now.kinds.has(kind)) {
            return UNKNOWN;
        }
        return now.apart(cell, kind);
    }

    // ---- 2 bids

    public int auction() {
        int slots = now.kinds.slots();
        if (slots == 0 || slots < now.cells.count) {
            return NO;
        }
        return bidding.holdAuction();
    }

    public int repair() {
        if (!now.sale.valid) {
            return STATE;
        }
        return now.sale.content ? 0 : bidding.mend();
    }

    public int phase(int phase, int what) {
        if (!now.sale.valid) {
            return STATE;
        }
        if (!now.sale.hasPhase(phase)) {
            return UNKNOWN;
        }
        switch (what) {
            case 0:
                return now.sale.steps[phase];
            case 1:
                return now.sale.phaseBids[phase];
            case 2:
                return now.sale.phaseSums[phase];
            default:
                return OUTSIDE;
        }
    }

    // ---- 3 who has what

    public int place(int cell) {
        if (!now.sale.isDone()) {
            return STATE;
        }
        if (!now.cells.has(cell)) {
            return UNKNOWN;
        }
        return now.kindOf(cell);
    }

    public int slot(int slot, int what) {
        if (!now.sale.valid || (what == 2 && !now.sale.content)) {
            return STATE;
        }
        if (!Sale.isInRow(slot) || slot >= now.kinds.slots()) {
            return UNKNOWN;
        }
        switch (what) {
            case 0:
                return now.sale.prices[slot];
            case 1:
                return now.kinds.ofSlot(slot);
            case 2:
                return now.cellOf(slot);
            default:
                return OUTSIDE;
        }
    }

    public int gain(int cell, int what) {
        if (!now.sale.valid || (what == 0 && !now.sale.content)) {
            return GONE + STATE;
        }
        if (!now.cells.has(cell)) {
            return GONE + UNKNOWN;
        }
        if (what != 0 && what != 1) {
            return GONE + OUTSIDE;
        }
        bidding.readWorths();
        return what == 0 ? bidding.ownGain(cell) : bidding.greatestGain(cell);
    }

    public int total() {
        return now.sale.isDone() ? now.sumOfDifferences() : STATE;
    }

    public int image(int k) {
        if (k < 0 || k >= IMAGES) {
            return OUTSIDE;
        }
        if (images[k] == null) {
            images[k] = new Picture();
        }
        images[k].copyFrom(now);
        return 1;
    }

    public int restore(int k) {
        if (k < 0 || k >= IMAGES) {
            return OUTSIDE;
        }
        if (images[k] == null) {
            return STATE;
        }
        now.copyFrom(images[k]);
        return 1;
    }

    public int told(int what) {
        switch (what) {
            case 0:
                return now.mode;
            case 1:
                return now.shrink;
            case 2:
                return now.kinds.count;
            case 3:
                return now.cells.count;
            case 4:
                return now.kinds.slots();
            case 5:
                return now.sale.valid ? 1 : 0;
            case 6:
                return now.sale.isDone() ? 1 : 0;
            case 7:
                return now.sale.valid ? now.sale.phases : 0;
            case 8:
                return now.sale.valid ? now.sale.bids : 0;
            default:
                return toldOfCell(what);
        }
    }

    private int toldOfCell(int what) {
        if (what < TOLD_OF_CELLS || !now.cells.has(what - TOLD_OF_CELLS)) {
            return OUTSIDE;
        }
        return now.cells.dots[what - TOLD_OF_CELLS];
    }

    private static boolean areDots(int dots) {
        return dots >= 0 && dots <= MOST_DOTS;
    }

    private static int dotsApart(int some, int others, int mode) {
        int sum = 0;
        int left = some;
        int right = others;
        for (int i = 0; i < DOTS_IN_ALL; i++) {
            int far = Math.abs(left % 10 - right % 10);
            sum += mode == SQUARED ? far * far : far;
            left /= 10;
            right /= 10;
        }
        return sum;
    }

    /** The KINDS with their STOCKS, in the order in which they came. */
    private static final class Kinds {
        private int count;
        private final int[] dots;
        private final int[] stocks;

        private Kinds() {
            dots = new int[MOST_KINDS];
            stocks = new int[MOST_KINDS];
        }

        private boolean has(int kind) {
            return kind >= 0 && kind < count && kind < MOST_KINDS;
        }

        private int numberOf(int wanted) {
            for (int i = 0; i < count && i < MOST_KINDS; i++) {
                if (dots[i] == wanted) {
                    return i;
                }
            }
            return NONE;
        }

        private int slots() {
            return firstSlot(count);
        }

        private int firstSlot(int kind) {
            int sum = 0;
            for (int i = 0; i < kind && i < MOST_KINDS; i++) {
                sum += stocks[i];
            }
            return sum;
        }

        private int ofSlot(int slot) {
            int behind = 0;
            for (int i = 0; i < count && i < MOST_KINDS; i++) {
                behind += stocks[i];
                if (slot >= 0 && slot < behind) {
                    return i;
                }
            }
            return NONE;
        }

        private boolean hasRoom(int wanted, int n) {
            int kind = numberOf(wanted);
            boolean fits = has(kind) ? stocks[kind] + n <= MOST_OF_A_KIND : count < MOST_KINDS;
            return fits && slots() + n <= MOST_SLOTS;
        }

        private int add(int wanted, int n) {
            int known = numberOf(wanted);
            int kind = known == NONE ? count : known;
            if (kind < 0 || kind >= MOST_KINDS) {
                return 0;
            }
            if (kind == count) {
                dots[kind] = wanted;
                stocks[kind] = 0;
                count++;
            }
            stocks[kind] += n;
            return stocks[kind];
        }

        private void takeOut(int kind) {
            if (!has(kind)) {
                return;
            }
            count--;
            for (int i = kind; i < count && i + 1 < MOST_KINDS; i++) {
                dots[i] = dots[i + 1];
                stocks[i] = stocks[i + 1];
            }
        }

        private void copyFrom(Kinds other) {
            count = other.count;
            System.arraycopy(other.dots, 0, dots, 0, MOST_KINDS);
            System.arraycopy(other.stocks, 0, stocks, 0, MOST_KINDS);
        }
    }

    /** The CELLS, each as the DOTS that it wants. */
    private static final class Cells {
        private int count;
        private final int[] dots;

        private Cells() {
            dots = new int[MOST_CELLS];
        }

        private boolean has(int cell) {
            return cell >= 0 && cell < count && cell < MOST_CELLS;
        }

        private void add(int wanted) {
            if (count < 0 || count >= MOST_CELLS) {
                return;
            }
            dots[count] = wanted;
            count++;
        }

        private void takeOut(int cell) {
            if (!has(cell)) {
                return;
            }
            count--;
            for (int i = cell; i < count && i + 1 < MOST_CELLS; i++) {
                dots[i] = dots[i + 1];
            }
        }

        private void copyFrom(Cells other) {
            count = other.count;
            System.arraycopy(other.dots, 0, dots, 0, MOST_CELLS);
        }
    }

    /** What the last AUCTION, and the REPAIRS behind it, left: PRICES, who has what, the PHASES. */
    private static final class Sale {
        private boolean valid;
        /** Whether no CELL has wanted other DOTS since; it tells nothing if the SALE isn't valid. */
        private boolean content;
        private int bids;
        private int phases;
        private final int[] prices;
        /** The BIDDER of each SLOT, and the SLOT of each BIDDER; NONE where there is none. */
        private final int[] holders;
        private final int[] held;
        private final int[] steps;
        private final int[] phaseBids;
        private final int[] phaseSums;

        private Sale() {
            prices = new int[MOST_SLOTS];
            holders = new int[MOST_SLOTS];
            held = new int[MOST_SLOTS];
            steps = new int[MOST_PHASES];
            phaseBids = new int[MOST_PHASES];
            phaseSums = new int[MOST_PHASES];
        }

        private boolean isDone() {
            return valid && content;
        }

        private boolean hasPhase(int phase) {
            return phase >= 0 && phase < phases && phase < MOST_PHASES;
        }

        private void begin() {
            phases = 0;
            for (int i = 0; i < MOST_SLOTS; i++) {
                prices[i] = 0;
            }
        }

        private void finish(int bidsInAll) {
            bids = bidsInAll;
            valid = true;
            content = true;
        }

        private void notePhase(int step, int bidsInIt, int sum) {
            if (phases < 0 || phases >= MOST_PHASES) {
                return;
            }
            steps[phases] = step;
            phaseBids[phases] = bidsInIt;
            phaseSums[phases] = sum;
            phases++;
        }

        private void freeAll() {
            for (int i = 0; i < MOST_SLOTS; i++) {
                holders[i] = NONE;
                held[i] = NONE;
            }
        }

        private int slotOf(int bidder) {
            return isInRow(bidder) ? held[bidder] : NONE;
        }

        private void setFree(int bidder) {
            if (!isInRow(bidder)) {
                return;
            }
            int slot = held[bidder];
            if (isInRow(slot)) {
                holders[slot] = NONE;
            }
            held[bidder] = NONE;
        }

        private void give(int slot, int bidder) {
            if (!isInRow(slot) || !isInRow(bidder)) {
                return;
            }
            int before = holders[slot];
            if (isInRow(before)) {
                held[before] = NONE;
            }
            holders[slot] = bidder;
            held[bidder] = slot;
        }

        private static boolean isInRow(int number) {
            return number >= 0 && number < MOST_SLOTS;
        }

        private void copyFrom(Sale other) {
            valid = other.valid;
            content = other.content;
            bids = other.bids;
            phases = other.phases;
            System.arraycopy(other.prices, 0, prices, 0, MOST_SLOTS);
            System.arraycopy(other.holders, 0, holders, 0, MOST_SLOTS);
            System.arraycopy(other.held, 0, held, 0, MOST_SLOTS);
            System.arraycopy(other.steps, 0, steps, 0, MOST_PHASES);
            System.arraycopy(other.phaseBids, 0, phaseBids, 0, MOST_PHASES);
            System.arraycopy(other.phaseSums, 0, phaseSums, 0, MOST_PHASES);
        }
    }

    /** All that an IMAGE keeps. */
    private static final class Picture {
        private int mode;
        private int shrink;
        private final Kinds kinds;
        private final Cells cells;
        private final Sale sale;

        private Picture() {
            mode = ADDED;
            shrink = FIRST_SHRINK;
            kinds = new Kinds();
            cells = new Cells();
            sale = new Sale();
        }

        private int apart(int cell, int kind) {
            if (!cells.has(cell) || !kinds.has(kind)) {
                return 0;
            }
            return dotsApart(cells.dots[cell], kinds.dots[kind], mode);
        }

        private int greatestDifference() {
            int greatest = 0;
            for (int cell = 0; cell < cells.count; cell++) {
                for (int kind = 0; kind < kinds.count; kind++) {
                    greatest = Math.max(greatest, apart(cell, kind));
                }
            }
            return greatest;
        }

        private int kindOf(int cell) {
            return kinds.ofSlot(sale.slotOf(cell));
        }

        private int cellOf(int slot) {
            if (!Sale.isInRow(slot)) {
                return NONE;
            }
            int bidder = sale.holders[slot];
            return cells.has(bidder) ? bidder : NONE;
        }

        private int cellsThatHave(int kind) {
            int found = 0;
            for (int cell = 0; cell < cells.count; cell++) {
                if (kindOf(cell) == kind) {
                    found++;
                }
            }
            return found;
        }

        private int sumOfDifferences() {
            int sum = 0;
            for (int cell = 0; cell < cells.count; cell++) {
                sum += apart(cell, kindOf(cell));
            }
            return sum;
        }

        private void copyFrom(Picture other) {
            mode = other.mode;
            shrink = other.shrink;
            kinds.copyFrom(other.kinds);
            cells.copyFrom(other.cells);
            sale.copyFrom(other.sale);
        }
    }

    /** A picture, and the BIDS for it. */
    private static final class Bidding {
        private final Picture picture;
        private final Sale sale;
        /** The WORTH of each SLOT to each BIDDER, a row a BIDDER: read anew before it is used. */
        private final int[] worths;
        private int slots;

        private Bidding() {
            picture = new Picture();
            sale = picture.sale;
            worths = new int[MOST_SLOTS * MOST_SLOTS];
        }

        private void readWorths() {
            slots = Math.min(picture.kinds.slots(), MOST_SLOTS);
            for (int slot = 0; slot < slots; slot++) {
                int kind = picture.kinds.ofSlot(slot);
                for (int bidder = 0; bidder < slots; bidder++) {
                    worths[bidder * MOST_SLOTS + slot] = worth(bidder, kind);
                }
            }
        }

        private int worth(int bidder, int kind) {
            boolean idle = !picture.cells.has(bidder);
            return idle ? 0 : -picture.apart(bidder, kind) * (slots + 1);
        }

        private int holdAuction() {
            readWorths();
            sale.begin();
            int step = Math.max(1, picture.greatestDifference() * (slots + 1) / FIRST_PART);
            int bids = auctionPhase(step);
            for (int i = 1; i < MOST_PHASES && step > 1; i++) {
                step = Math.max(1, step / Math.max(LEAST_SHRINK, picture.shrink));
                bids += auctionPhase(step);
            }
            sale.finish(bids);
            return bids;
        }

        private int auctionPhase(int step) {
            sale.freeAll();
            int bids = bidTillNoneIsFree(step);
            sale.notePhase(step, bids, picture.sumOfDifferences());
            return bids;
        }

        private int mend() {
            readWorths();
            // PRICES stay as they are meanwhile, so it is the same as if all were freed at once.
            for (int bidder = 0; bidder < slots; bidder++) {
                if (ownGain(bidder) < greatestGain(bidder) - 1) {
                    sale.setFree(bidder);
                }
            }
            int bids = bidTillNoneIsFree(1);
            sale.finish(bids);
            return bids;
        }

        private int bidTillNoneIsFree(int step) {
            for (int bids = 0; bids < MOST_BIDS; bids++) {
                int bidder = leastFree();
                if (bidder == NONE) {
                    return bids;
                }
                makeBid(bidder, step);
            }
            return MOST_BIDS;
        }

        private int leastFree() {
            int[] held = sale.held;
            for (int bidder = 0; bidder < slots && bidder < held.length; bidder++) {
                if (held[bidder] == NONE) {
                    return bidder;
                }
            }
            return NONE;
        }

        /** This runs some 50,000 times in a dear REPAIR: it looks at the numbers once, not in the loop. */
        private void makeBid(int bidder, int step) {
            if (!Sale.isInRow(bidder) || slots > MOST_SLOTS) {
                return;
            }
            int[] prices = sale.prices;
            int row = bidder * MOST_SLOTS;
            int best = 0;
            int most = worths[row] - prices[0];
            int second = most;
            for (int slot = 1; slot < slots; slot++) {
                int here = worths[row + slot] - prices[slot];
                if (here > most) {
                    second = most;
                    most = here;
                    best = slot;
                } else if (slot == 1 || here > second) {
                    second = here;
                }
            }
            prices[best] += most - second + step;
            sale.give(best, bidder);
        }

        private int gainOf(int bidder, int slot) {
            if (!Sale.isInRow(bidder) || !Sale.isInRow(slot)) {
                return 0;
            }
            return worths[bidder * MOST_SLOTS + slot] - sale.prices[slot];
        }

        private int ownGain(int bidder) {
            return gainOf(bidder, sale.slotOf(bidder));
        }

        private int greatestGain(int bidder) {
            int greatest = gainOf(bidder, 0);
            for (int slot = 1; slot < slots; slot++) {
                greatest = Math.max(greatest, gainOf(bidder, slot));
            }
            return greatest;
        }
    }
}
