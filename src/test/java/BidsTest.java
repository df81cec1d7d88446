/** Promises 12 to 14: auction, repair, phase. The numbers are worked out by hand, beside the calls. */
final class BidsTest {
    private static final Check check = new Check();

    public static void main(String[] args) {
        auctionIsRefused();
        oneSlot();
        noCells();
        twoSlots();
        takenSlots();
        stepIsCut();
        shrinks();
        auctionAgain();
        repairIsRefused();
        repairOfOne();
        repairOfTwoLess();
        repairOfOneLess();
        repairOfAnother();
        phaseIsRefused();
        phasesStay();
        check.end();
    }

    private static void auctionIsRefused() {
        BidMosaic x = new BidMosaic();
        check.due("no SLOTS, no CELLS", x.auction(), BidMosaic.NO);
        x.cell(1);
        check.due("no SLOTS", x.auction(), BidMosaic.NO);
        x.cell(1);
        x.stock(1, 1);
        check.due("fewer SLOTS than CELLS", x.auction(), BidMosaic.NO);
        check.due("VALID", x.told(5), 0);
        x.stock(1, 1);
        check.due("as many", x.auction(), 2);
        check.due("VALID", x.told(5), 1);
        check.due("DONE", x.told(6), 1);
    }

    /** DIFFERENCE 5, WORTH -10, STEPS 10 / 4 = 2, 2 / 4 = 0: 1; with one SLOT, SECOND is as BEST. */
    private static void oneSlot() {
        BidMosaic x = new BidMosaic();
        x.stock(1234, 1);
        x.cell(1239);
        check.due("auction()", x.auction(), 2);
        phases(x, new int[][] {{2, 1, 5}, {1, 1, 5}});
        check.due("PRICE", x.slot(0, 0), 3);
        check.due("GAIN", x.gain(0, 0), -13);
    }

    /** The greatest of no DIFFERENCES: STEP 1. Idle ones take SLOTS 0, 1, 2, the last for 1 + 1. */
    private static void noCells() {
        BidMosaic x = new BidMosaic();
        x.stock(1234, 3);
        check.due("auction()", x.auction(), 3);
        phases(x, new int[][] {{1, 3, 0}});
        for (int slot = 0; slot < 3; slot++) {
            check.due("PRICE of " + slot, x.slot(slot, 0), slot == 2 ? 2 : 1);
            check.due("the CELL of " + slot, x.slot(slot, 2), BidMosaic.NONE);
        }
    }

    /**
     * WORTHS -6 and 0 of SLOTS 0 and 1 to the CELL, greatest DIFFERENCE 2, STEPS 6 / 4 = 1: one PHASE.
     * The CELL bids for SLOT 1: 0 + 6 + 1 = 7; the idle one has GAINS 0, -7, bids for 0: 7 + 1 = 8.
     */
    private static void twoSlots() {
        BidMosaic x = new BidMosaic();
        x.stock(2, 1);
        x.stock(4, 1);
        x.cell(4);
        check.due("auction()", x.auction(), 2);
        phases(x, new int[][] {{1, 2, 0}});
        check.due("PRICE of 0", x.slot(0, 0), 8);
        check.due("PRICE of 1", x.slot(1, 0), 7);
        check.due("place(0)", x.place(0), 1);
        check.due("GAIN", x.gain(0, 0), -7);
        check.due("the greatest GAIN", x.gain(0, 1), -7);
    }

    /**
     * Both CELLS want 0000; KINDS 0000 (SLOT 0), 0001 (SLOT 1); WORTHS 0, -3; STEP 3 / 4 = 0: 1.
     * CELL 0 bids for 0: 3 + 1 = 4. CELL 1: GAINS -4, -3, bids for 1: 1 + 1 = 2. That is all.
     * With KIND 0009 instead: WORTHS 0, -27, STEPS 6, 1. STEP 6: CELL 0 bids for 0: 27 + 6 = 33;
     * CELL 1: GAINS -33, -27: 1, 6 + 6 = 12. STEP 1: CELL 0: GAINS -33, -39: 0, 6 + 1: 40;
     * CELL 1: GAINS -40, -39: 1, 1 + 1: 14.
     */
    private static void takenSlots() {
        BidMosaic x = new BidMosaic();
        x.stock(0, 1);
        x.stock(1, 1);
        x.cell(0);
        x.cell(0);
        check.due("auction()", x.auction(), 2);
        check.due("PRICE of 0", x.slot(0, 0), 4);
        check.due("PRICE of 1", x.slot(1, 0), 2);
        x.drop(1);
        x.stock(9, 1);
        check.due("auction()", x.auction(), 4);
        phases(x, new int[][] {{6, 2, 9}, {1, 2, 9}});
        check.due("PRICE of 0", x.slot(0, 0), 40);
        check.due("PRICE of 1", x.slot(1, 0), 14);
        takenAndBackAgain();
    }

    /**
     * SLOTS 0, 1 of 0000, SLOT 2 of 0001; three CELLS want 0000: WORTHS 0, 0, -4; STEP 4 / 4 = 1.
     * CELL 0: SLOT 0 for 1. CELL 1: GAINS -1, 0, -4: SLOT 1 for 2. CELL 2: -1, -2, -4: SLOT 0, 1 + 1: 3.
     * CELL 0 is free: -3, -2, -4: SLOT 1, 1 + 1: 4. CELL 1: -3, -4, -4: SLOT 0, 1 + 1: 5.
     * CELL 2: -5, -4, -4: of as great the least, SLOT 1, 0 + 1: 5. CELL 0: -5, -5, -4: SLOT 2, 1 + 1: 2.
     */
    private static void takenAndBackAgain() {
        BidMosaic x = new BidMosaic();
        x.stock(0, 2);
        x.stock(1, 1);
        for (int i = 0; i < 3; i++) {
            x.cell(0);
        }
        check.due("auction()", x.auction(), 7);
        phases(x, new int[][] {{1, 7, 1}});
        int[][] slots = {{5, 0, 1}, {5, 0, 2}, {2, 1, 0}};
        for (int slot = 0; slot < 3; slot++) {
            for (int what = 0; what < 3; what++) {
                check.due("slot(" + slot + ", " + what + ")", x.slot(slot, what), slots[slot][what]);
            }
        }
    }

    /** DIFFERENCE 3, two SLOTS: 9 / 4 = 2, not 3 / 4 = 0 times 3. */
    private static void stepIsCut() {
        BidMosaic x = new BidMosaic();
        x.stock(5, 2);
        x.cell(8);
        x.auction();
        check.due("STEP", x.phase(0, 0), 2);
        check.due("STEP", x.phase(1, 0), 1);
        check.due("PHASES", x.told(7), 2);
    }

    private static void shrinks() {
        int[][] steps = {
            {1377, 688, 344, 172, 86, 43, 21, 10, 5, 2, 1},
            {1377, 459, 153, 51, 17, 5, 1},
            {1377, 344, 86, 21, 5, 1},
            {1377, 275, 55, 11, 2, 1},
            {1377, 229, 38, 6, 1},
            {1377, 196, 28, 4, 1},
            {1377, 172, 21, 2, 1},
            {1377, 153, 17, 1}};
        BidMosaic x = new BidMosaic();
        for (int dots = 0; dots < 4; dots++) {
            x.stock(dots, 4);
        }
        x.cell(9999);
        x.mode(1);
        for (int f = 2; f <= 9; f++) {
            x.shrink(f);
            x.auction();
            check.due("PHASES of shrink " + f, x.told(7), steps[f - 2].length);
            for (int i = 0; i < steps[f - 2].length; i++) {
                check.due("shrink " + f + ", phase(" + i + ", 0)", x.phase(i, 0), steps[f - 2][i]);
            }
            check.due("one more", x.phase(steps[f - 2].length, 0), BidMosaic.UNKNOWN);
        }
    }

    private static void auctionAgain() {
        BidMosaic x = new BidMosaic();
        x.stock(1234, 1);
        x.cell(1239);
        for (int i = 0; i < 3; i++) {
            check.due("auction() again", x.auction(), 2);
            check.due("PRICES are 0 at first", x.slot(0, 0), 3);
            check.due("PHASES", x.told(7), 2);
        }
        x.change(0, 1234);
        check.due("not DONE", x.told(6), 0);
        check.due("auction() makes it DONE", x.auction(), 1);
        check.due("DONE", x.told(6), 1);
        check.due("PHASES", x.told(7), 1);
    }

    private static void repairIsRefused() {
        BidMosaic x = new BidMosaic();
        check.due("no AUCTION", x.repair(), BidMosaic.STATE);
        x.stock(1, 1);
        check.due("no AUCTION", x.repair(), BidMosaic.STATE);
        x.auction();
        check.due("DONE", x.repair(), 0);
        check.due("BIDS stay", x.told(8), 1);
        x.stock(1, 1);
        check.due("not VALID", x.repair(), BidMosaic.STATE);
    }

    /**
     * As in twoSlots: PRICES 8, 7, CELL 0 has SLOT 1. It wants 0002 then: WORTHS 0, -6, GAINS -8, -13:
     * it is free, the idle one (GAINS -8, -7) is not. It bids for 0: 5 + 1: 14; the idle one is free,
     * GAINS -14, -7: it bids for 1: 7 + 1: 15.
     */
    private static void repairOfOne() {
        BidMosaic x = new BidMosaic();
        x.stock(2, 1);
        x.stock(4, 1);
        x.cell(4);
        x.auction();
        x.change(0, 2);
        check.due("PRICE ahead of it", x.slot(0, 0), 8);
        check.due("repair()", x.repair(), 2);
        check.due("PRICE of 0", x.slot(0, 0), 14);
        check.due("PRICE of 1", x.slot(1, 0), 15);
        check.due("place(0)", x.place(0), 0);
        check.due("slot(1, 2)", x.slot(1, 2), BidMosaic.NONE);
        check.due("BIDS", x.told(8), 2);
        check.due("DONE", x.told(6), 1);
        check.due("PHASES are those of the AUCTION", x.told(7), 1);
        check.due("repair() again", x.repair(), 0);
        check.due("BIDS stay", x.told(8), 2);
    }

    /**
     * One CELL wants 0000, SLOTS of 0000 and 0001: it has SLOT 0 for 4, the idle one SLOT 1 for 5.
     * When it wants 0001, its GAINS are -7, -5: two less, so it is free.
     * When it wants 1000, they are -7 (WORTH -3), -11 (WORTH -6): it is content.
     */
    private static void repairOfTwoLess() {
        BidMosaic x = new BidMosaic();
        x.stock(0, 1);
        x.stock(1, 1);
        x.cell(0);
        x.auction();
        check.due("PRICE of 0", x.slot(0, 0), 4);
        check.due("PRICE of 1", x.slot(1, 0), 5);
        x.image(0);
        x.change(0, 1);
        check.due("gain(0, 1)", x.gain(0, 1), -5);
        check.due("repair()", x.repair(), 2);
        check.due("PRICE of 1: 5 + 2 + 1", x.slot(1, 0), 8);
        check.due("PRICE of 0: 4 + 4 + 1", x.slot(0, 0), 9);
        x.restore(0);
        x.change(0, 1000);
        check.due("repair()", x.repair(), 0);
        check.due("BIDS", x.told(8), 0);
        check.due("DONE", x.told(6), 1);
        check.due("GAIN", x.gain(0, 0), -7);
        check.due("PRICE of 0", x.slot(0, 0), 4);
    }

    /**
     * As in takenSlots: PRICES 4, 2, CELL 1 has SLOT 1. It wants 1000 then: WORTHS -3, -6, GAINS -7, -8:
     * one less is content still. With 0100 for the other CELL too: GAINS -7, -8, and SLOT 0 is its own.
     */
    private static void repairOfOneLess() {
        BidMosaic x = new BidMosaic();
        x.stock(0, 1);
        x.stock(1, 1);
        x.cell(0);
        x.cell(0);
        x.auction();
        x.change(1, 1000);
        x.change(0, 100);
        check.due("gain(1, 1)", x.gain(1, 1), -7);
        check.due("repair()", x.repair(), 0);
        check.due("gain(1, 0)", x.gain(1, 0), -8);
        check.due("place(0)", x.place(0), 0);
        check.due("place(1)", x.place(1), 1);
        check.due("PRICE of 0", x.slot(0, 0), 4);
        check.due("PRICE of 1", x.slot(1, 0), 2);
        check.due("DONE", x.told(6), 1);
        check.due("total()", x.total(), 3);
    }

    /**
     * Likewise, but the CELLS want 0001 and 0000 then, the other way round: GAINS -7, -2 and -4, -5:
     * CELL 0 alone is free. It bids for SLOT 1: 5 + 1: 8; CELL 1 is free: GAINS -4, -11: SLOT 0, 7 + 1: 12.
     */
    private static void repairOfAnother() {
        BidMosaic x = new BidMosaic();
        x.stock(0, 1);
        x.stock(1, 1);
        x.cell(0);
        x.cell(0);
        x.auction();
        x.change(0, 1);
        check.due("repair()", x.repair(), 2);
        check.due("PRICE of 0", x.slot(0, 0), 12);
        check.due("PRICE of 1", x.slot(1, 0), 8);
        check.due("place(0)", x.place(0), 1);
        check.due("place(1)", x.place(1), 0);
        check.due("total()", x.total(), 0);
    }

    private static void phaseIsRefused() {
        BidMosaic x = new BidMosaic();
        x.stock(1234, 1);
        x.cell(1239);
        check.due("STATE ahead of all", x.phase(-1, -1), BidMosaic.STATE);
        x.auction();
        for (int wrong : new int[] {-1, 2, 11, 16, 17, Integer.MIN_VALUE, Integer.MAX_VALUE}) {
            check.due("phase(" + wrong + ", 0)", x.phase(wrong, 0), BidMosaic.UNKNOWN);
            check.due("phase(" + wrong + ", 3)", x.phase(wrong, 3), BidMosaic.UNKNOWN);
        }
        for (int wrong : new int[] {-1, 3, Integer.MIN_VALUE, Integer.MAX_VALUE}) {
            check.due("phase(0, " + wrong + ")", x.phase(0, wrong), BidMosaic.OUTSIDE);
        }
        x.cell(1);
        check.due("not VALID", x.phase(0, 0), BidMosaic.STATE);
    }

    private static void phasesStay() {
        BidMosaic x = new BidMosaic();
        x.stock(1234, 1);
        x.cell(1239);
        x.auction();
        x.change(0, 0);
        phases(x, new int[][] {{2, 1, 5}, {1, 1, 5}});
        x.repair();
        phases(x, new int[][] {{2, 1, 5}, {1, 1, 5}});
        x.shrink(9);
        phases(x, new int[][] {{2, 1, 5}, {1, 1, 5}});
        check.due("total()", x.total(), 10);
    }

    private static void phases(BidMosaic x, int[][] want) {
        check.due("PHASES", x.told(7), want.length);
        for (int phase = 0; phase < want.length; phase++) {
            for (int what = 0; what < 3; what++) {
                check.due("phase(" + phase + ", " + what + ")", x.phase(phase, what), want[phase][what]);
            }
        }
        check.due("phase(" + want.length + ", 0)", x.phase(want.length, 0), BidMosaic.UNKNOWN);
    }
}
