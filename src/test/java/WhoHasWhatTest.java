/** Promises 15 to 18 and 21: place, slot, gain, total, told. */
final class WhoHasWhatTest {
    private static final int[] FAR_OFF = {-1, 16, 17, Integer.MIN_VALUE, Integer.MAX_VALUE};
    private static final Check check = new Check();

    public static void main(String[] args) {
        place();
        slot();
        slotIsRefused();
        gain();
        gainIsRefused();
        total();
        told();
        check.end();
    }

    /** CELL 0 has KIND 1 (0005), CELL 1 KIND 0 (0000), an idle one the second SLOT of KIND 1. */
    private static BidMosaic threeSlots() {
        BidMosaic x = new BidMosaic();
        x.stock(0, 1);
        x.stock(5, 2);
        x.cell(4);
        x.cell(0);
        return x;
    }

    private static void place() {
        BidMosaic x = threeSlots();
        check.due("STATE ahead of UNKNOWN", x.place(-1), BidMosaic.STATE);
        check.due("no AUCTION", x.place(0), BidMosaic.STATE);
        x.auction();
        check.due("place(0)", x.place(0), 1);
        check.due("place(1)", x.place(1), 0);
        check.due("an idle one is no CELL", x.place(2), BidMosaic.UNKNOWN);
        for (int wrong : FAR_OFF) {
            check.due("place(" + wrong + ")", x.place(wrong), BidMosaic.UNKNOWN);
        }
        x.change(0, 5);
        check.due("not DONE", x.place(0), BidMosaic.STATE);
        check.due("not DONE", x.place(9), BidMosaic.STATE);
        x.repair();
        check.due("place(0)", x.place(0), 1);
        x.remove(0);
        check.due("not VALID", x.place(0), BidMosaic.STATE);
    }

    /**
     * WORTHS of CELL 0: -16, -4, -4, of CELL 1: 0, -20, -20; STEPS 5 * 4 / 4 = 5, 1.
     * STEP 5: CELL 0: SLOT 1 for 5; CELL 1: SLOT 0 for 20 + 5 = 25; the idle one: -25, -5, 0: SLOT 2 for 10.
     * STEP 1: CELL 0: -41, -9, -14: SLOT 1, 5 + 1: 11; CELL 1: -25, -31, -30: SLOT 0, 5 + 1: 31;
     * the idle one: -31, -11, -10: SLOT 2, 1 + 1: 12.
     */
    private static void slot() {
        BidMosaic x = threeSlots();
        check.due("auction()", x.auction(), 6);
        int[][] want = {{31, 0, 1}, {11, 1, 0}, {12, 1, BidMosaic.NONE}};
        for (int slot = 0; slot < 3; slot++) {
            for (int what = 0; what < 3; what++) {
                check.due("slot(" + slot + ", " + what + ")", x.slot(slot, what), want[slot][what]);
            }
        }
        x.change(0, 9);
        for (int slot = 0; slot < 3; slot++) {
            check.due("not DONE: PRICE", x.slot(slot, 0), want[slot][0]);
            check.due("not DONE: KIND", x.slot(slot, 1), want[slot][1]);
            check.due("not DONE: CELL", x.slot(slot, 2), BidMosaic.STATE);
        }
    }

    private static void slotIsRefused() {
        BidMosaic x = threeSlots();
        for (int what = -1; what < 4; what++) {
            check.due("no AUCTION: slot(0, " + what + ")", x.slot(0, what), BidMosaic.STATE);
            check.due("no AUCTION: slot(9, " + what + ")", x.slot(9, what), BidMosaic.STATE);
        }
        x.auction();
        check.due("slot(3, 0)", x.slot(3, 0), BidMosaic.UNKNOWN);
        for (int wrong : FAR_OFF) {
            check.due("slot(" + wrong + ", 0)", x.slot(wrong, 0), BidMosaic.UNKNOWN);
            check.due("slot(" + wrong + ", 2)", x.slot(wrong, 2), BidMosaic.UNKNOWN);
            check.due("slot(" + wrong + ", 3)", x.slot(wrong, 3), BidMosaic.UNKNOWN);
        }
        for (int wrong : new int[] {-1, 3, Integer.MIN_VALUE, Integer.MAX_VALUE}) {
            check.due("slot(0, " + wrong + ")", x.slot(0, wrong), BidMosaic.OUTSIDE);
        }
        x.change(0, 9);
        check.due("not DONE: slot(9, 2)", x.slot(9, 2), BidMosaic.STATE);
        check.due("not DONE: slot(9, 1)", x.slot(9, 1), BidMosaic.UNKNOWN);
        check.due("not DONE: slot(0, 3)", x.slot(0, 3), BidMosaic.OUTSIDE);
        x.mode(1);
        check.due("not VALID", x.slot(0, 0), BidMosaic.STATE);
    }

    private static void gain() {
        BidMosaic x = threeSlots();
        x.auction();
        check.due("-4 - 11", x.gain(0, 0), -15);
        check.due("-4 - 11", x.gain(0, 1), -15);
        check.due("0 - 31", x.gain(1, 0), -31);
        check.due("-20 - 11", x.gain(1, 1), -31);
        x.change(1, 5);
        check.due("not DONE: gain(1, 0)", x.gain(1, 0), BidMosaic.GONE + BidMosaic.STATE);
        check.due("not DONE: 0 - 11", x.gain(1, 1), -11);
        check.due("not DONE: the other one's", x.gain(0, 1), -15);
        gainsOfOneLess();
    }

    /** As in BidsTest.takenSlots: PRICES 4 and 2, WORTHS 0 and -3. */
    private static void gainsOfOneLess() {
        BidMosaic x = new BidMosaic();
        x.stock(0, 1);
        x.stock(1, 1);
        x.cell(0);
        x.cell(0);
        x.auction();
        check.due("-3 - 2", x.gain(1, 0), -5);
        check.due("0 - 4", x.gain(1, 1), -4);
    }

    private static void gainIsRefused() {
        BidMosaic x = threeSlots();
        for (int what = -1; what < 3; what++) {
            check.due("no AUCTION: gain(0, " + what + ")", x.gain(0, what), -100000003);
            check.due("no AUCTION: gain(9, " + what + ")", x.gain(9, what), -100000003);
        }
        x.auction();
        check.due("gain(2, 0), an idle one", x.gain(2, 0), -100000001);
        for (int wrong : FAR_OFF) {
            check.due("gain(" + wrong + ", 0)", x.gain(wrong, 0), -100000001);
            check.due("gain(" + wrong + ", 2)", x.gain(wrong, 2), -100000001);
        }
        for (int wrong : new int[] {-1, 2, Integer.MIN_VALUE, Integer.MAX_VALUE}) {
            check.due("gain(0, " + wrong + ")", x.gain(0, wrong), -100000002);
        }
        x.change(0, 9);
        check.due("not DONE: gain(9, 0)", x.gain(9, 0), -100000003);
        check.due("not DONE: gain(9, 1)", x.gain(9, 1), -100000001);
        check.due("not DONE: gain(0, 2)", x.gain(0, 2), -100000002);
    }

    private static void total() {
        BidMosaic x = threeSlots();
        check.due("no AUCTION", x.total(), BidMosaic.STATE);
        x.auction();
        check.due("1 + 0", x.total(), 1);
        x.change(0, 9);
        check.due("not DONE", x.total(), BidMosaic.STATE);
        x.repair();
        check.due("4 + 0", x.total(), 4);
        x.mode(1);
        check.due("not VALID", x.total(), BidMosaic.STATE);
        x.auction();
        check.due("16 + 0", x.total(), 16);
        x.remove(0);
        x.remove(0);
        x.auction();
        check.due("no CELLS", x.total(), 0);
    }

    private static void told() {
        BidMosaic x = threeSlots();
        x.shrink(5);
        x.mode(1);
        tolds(x, 1, 5, 2, 2, 3, 0, 0, 0, 0);
        // The greatest DIFFERENCE is 25: STEPS 25, 5, 1, a BID of each BIDDER in each.
        x.auction();
        tolds(x, 1, 5, 2, 2, 3, 1, 1, 3, 9);
        x.change(0, 5);
        tolds(x, 1, 5, 2, 2, 3, 1, 0, 3, 9);
        x.repair();
        tolds(x, 1, 5, 2, 2, 3, 1, 1, 3, 0);
        check.due("told(100)", x.told(100), 5);
        check.due("told(101)", x.told(101), 0);
        for (int wrong : new int[] {-1, 9, 10, 50, 99, 102, 111, 112, 200, Integer.MIN_VALUE, Integer.MIN_VALUE + 99,
                Integer.MIN_VALUE + 100, Integer.MAX_VALUE, -100, -6}) {
            check.due("told(" + wrong + ")", x.told(wrong), BidMosaic.OUTSIDE);
        }
        x.mode(0);
        tolds(x, 0, 5, 2, 2, 3, 0, 0, 0, 0);
    }

    private static void tolds(BidMosaic x, int... want) {
        for (int what = 0; what < want.length; what++) {
            check.due("told(" + what + ")", x.told(what), want[what]);
        }
    }
}
