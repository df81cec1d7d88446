/** The Terms, parts 2 and 3 (SLOTS, BIDS, the AUCTION, the REPAIR), sentence by sentence, worked out by hand. */
final class BidTermsTest {
    private static final int UNKNOWN = -1, OUTSIDE = -2, STATE = -3, NONE = -6;
    private static final Check check = new Check();

    public static void main(String[] args) {
        slotsAreNumbered();
        asManyBidders();
        worthIsLessThanNothing();
        pricesBeginWithNothing();
        ofAsGreatTheLeastNumber();
        secondMayBeAsGreat();
        noOtherSlot();
        whoLosesIsFree();
        leastNumberBidsFirst();
        phasesBeginAnewButForPrices();
        firstStepIsAFourth();
        greatestDifferenceOfAll();
        stepShrinks();
        shrinkOfTwoToNine();
        lastStepIsOne();
        validAsLong();
        refusedCallsLeaveItValid();
        validAndBackAgain();
        otherDotsThanBefore();
        lessThanTheGreatestLessOne();
        onlyTheseAreFree();
        check.end();
    }

    private static Run run(String text) {
        return new Run(check, text);
    }

    /** "SLOTS are numbered from 0 on: as many as its STOCK for each KIND, in order." */
    private static void slotsAreNumbered() {
        int[] stocks = {1, 4, 2, 3, 1, 1, 3, 1};
        String text = "mode 0";
        int slots = 0;
        for (int kind = 0; kind < stocks.length; kind++) {
            text += "; stock " + (90 - kind) + " " + stocks[kind];
            Run run = run(text + "; auction");
            run.gives("kind " + kind + " 2", slots);
            for (int slot = slots; slot < slots + stocks[kind]; slot++) {
                run.gives("slot " + slot + " 1", kind);
            }
            slots += stocks[kind];
            run.gives("told 4", slots);
            run.gives("slot " + (slots - 1) + " 1", kind);
            run.gives("slot 0 1", 0);
            for (int wrong : Run.beyond(0, slots - 1)) {
                run.leavesAll("slot " + wrong + " 1", UNKNOWN);
            }
        }
        check.due("all SLOTS", slots, 16);
        Run less = run(text + "; drop 89; auction");
        less.gives("kind 1 2", 1);
        less.gives("slot 1 1", 1);
        less.gives("slot 11 1", 6);
        less.leavesAll("slot 12 1", UNKNOWN);
    }

    /** "There are as many BIDDERS: CELLS by numbers, then IDLE ones." None, some, or all of them may be IDLE. */
    private static void asManyBidders() {
        for (int cells = 0; cells <= 12; cells++) {
            String text = "stock 5 4; stock 6 4; stock 7 4";
            for (int cell = 0; cell < cells; cell++) {
                text += "; cell " + (cell + 1);
            }
            Run run = run(text + "; auction");
            int idle = 0;
            for (int slot = 0; slot < 12; slot++) {
                idle += run.answer("slot " + slot + " 2") == NONE ? 1 : 0;
            }
            check.due(cells + " CELLS: IDLE ones", idle, 12 - cells);
            for (int cell = 0; cell < cells; cell++) {
                check.holds(cells + " CELLS: a KIND for " + cell, run.answer("place " + cell) >= 0);
            }
            run.leavesAll("place " + cells, UNKNOWN);
        }
    }

    /**
     * "WORTH .. the DIFFERENCE .., times how many SLOTS there are and 1, taken off 0; to an IDLE one 0."
     * One SLOT: the PRICE is all STEPS added; DIFFERENCE 36: 18, 4, 1; 324: 162, 40, 10, 2, 1; 0: 1.
     * 16 SLOTS and no CELL: to all 16 BIDDERS all are worth 0, whichever KIND they are of.
     */
    private static void worthIsLessThanNothing() {
        run("stock 0 1; cell 9999; auction").gives("gain 0 0", -36 * 2 - 23);
        run("stock 0 1; cell 9999; mode 1; auction").gives("gain 0 0", -324 * 2 - 215);
        run("stock 9999 1; cell 9999; auction").gives("gain 0 0", -1);
        Run idle = run("stock 9999 4; stock 9998 4; stock 9997 4; stock 9996 4; auction");
        idle.gives("auction", 16);
        for (int slot = 0; slot < 16; slot++) {
            idle.gives("slot " + slot + " 0", slot < 15 ? 1 : 2);
            idle.gives("slot " + slot + " 2", NONE);
        }
    }

    /** "Each SLOT has a PRICE (0 at first)." Of a STEP 1 alone, each of two has 1, and the last one its SECOND too. */
    private static void pricesBeginWithNothing() {
        run("stock 3 1; auction").gives("slot 0 0", 1);
        run("stock 3 2; auction").gives("slot 0 0", 1);
        run("stock 3 2; auction").gives("slot 1 0", 2);
        run("stock 3 2; auction; auction; auction").isLike(run("stock 3 2; auction"));
        run(States.FULL_DONE + "; auction").isLike(run(States.FULL_DONE));
        run(States.FULL_CHANGED + "; repair; change 11 8811; auction").isLike(run(States.FULL_DONE));
    }

    /** "BEST, the SLOT of the greatest GAIN (of as great the least number)": all are as great, so they follow. */
    private static void ofAsGreatTheLeastNumber() {
        Run run = run("stock 1 4; cell 1; cell 1; cell 1; auction");
        for (int cell = 0; cell < 3; cell++) {
            run.gives("slot " + cell + " 2", cell);
        }
        run.gives("slot 3 2", NONE);
        Run two = run("stock 5 1; stock 7 1; cell 6; auction");
        two.gives("place 0", 0);
        two.gives("slot 0 2", 0);
        two.gives("slot 1 2", NONE);
        Run behind = run("stock 9 1; stock 5 1; stock 7 1; cell 6; auction");
        behind.gives("place 0", 1);
    }

    /**
     * "SECOND, the greatest GAIN of all other SLOTS": as great as BEST's if two are, so that the STEP alone is
     * added. SLOTS 0, 1 of 0005, SLOT 2 of 0007; CELL 0 wants 0005: WORTHS 0, 0, -8, STEPS 2, 1.
     * STEP 2: CELL 0: SLOT 0 for 2; the IDLE ones: -2, 0, 0: SLOT 1 for 2; -2, -2, 0: SLOT 2, 2 + 2 = 4.
     * STEP 1: CELL 0: -2, -2, -12: SLOT 0 for 3; the IDLE ones: -3, -2, -4: SLOT 1, 1 + 1: 4; -3, -4, -4:
     * SLOT 0, 1 + 1: 5; CELL 0 is FREE: -5, -4, -12: SLOT 1, 1 + 1: 6; an IDLE one: -5, -6, -4: SLOT 2: 6.
     */
    private static void secondMayBeAsGreat() {
        Run run = run("stock 5 2; stock 7 1; cell 5");
        run.gives("auction", 8);
        Run done = run.then("auction");
        done.gives("phase 0 1", 3);
        done.gives("phase 1 1", 5);
        done.gives("slot 0 0", 5);
        done.gives("slot 1 0", 6);
        done.gives("slot 2 0", 6);
        done.gives("slot 1 2", 0);
        done.gives("slot 0 2", NONE);
    }

    /** "(if there is no other one: that of BEST)": the PRICE of a lone SLOT grows by the STEP alone. */
    private static void noOtherSlot() {
        Run idle = run("stock 3 1");
        idle.gives("auction", 1);
        idle.then("auction").gives("slot 0 0", 1);
        Run cell = run("stock 0 1; cell 9");
        cell.gives("auction", 2);
        cell.then("auction").gives("slot 0 0", 4 + 1);
        cell.then("auction").gives("gain 0 0", -18 - 5);
        cell.then("auction; change 0 5").gives("repair", 0);
        cell.then("auction; change 0 5; repair").gives("slot 0 0", 5);
        cell.then("auction; change 0 5; repair").gives("gain 0 0", -10 - 5);
    }

    /**
     * "BEST is that BIDDER's then; the one whose it was is FREE."
     * KINDS 0000, 0001: CELL 0 wants 1, CELL 1 wants 0; MODE 0, STEP 3 / 4: 1. No one loses.
     * CELLS 9004, 9003 and KINDS 0000, 0009: DIFFERENCES 13, 14 and 12, 15; STEPS 45 / 4 = 11, 2, 1.
     * STEP 11: CELL 0: -39, -42: SLOT 0 for 14; CELL 1: -50, -45: SLOT 1 for 16: 13 + 15 = 28.
     * STEP 2: CELL 0: -53, -58: SLOT 0: 21; CELL 1: -57, -61: SLOT 0: 27; CELL 0: -66, -58: SLOT 1: 26: 14 + 12.
     * STEP 1: CELL 0: -66, -68: SLOT 0: 30; CELL 1: -66, -71: SLOT 0: 36; CELL 0: -75, -68: SLOT 1: 34.
     */
    private static void whoLosesIsFree() {
        run("stock 0 1; stock 1 1; cell 1; cell 0").gives("auction", 2);
        Run run = run("stock 0 1; stock 9 1; cell 9004; cell 9003");
        run.gives("auction", 8);
        Run done = run.then("auction");
        int[][] phases = {{11, 2, 28}, {2, 3, 26}, {1, 3, 26}};
        for (int phase = 0; phase < 3; phase++) {
            for (int what = 0; what < 3; what++) {
                done.gives("phase " + phase + " " + what, phases[phase][what]);
            }
        }
        done.gives("slot 0 0", 36);
        done.gives("slot 1 0", 34);
        done.gives("slot 0 2", 1);
        done.gives("slot 1 2", 0);
    }

    /**
     * "the FREE one of the least number makes a BID": CELL 0, when it is FREE again, ahead of CELL 2.
     * KINDS 0000, 0009, 0900; CELLS 0004, 0000, 0900: DIFFERENCES 4, 5, 13; 0, 9, 9; 9, 18, 0; STEPS 18, 4, 1.
     * STEP 18: CELL 0: -16, -20, -52: SLOT 0: 22; CELL 1: -22, -36, -36: SLOT 0: 54; CELL 0: -70, -20, -52:
     * SLOT 1: 50; CELL 2: -90, -122, 0: SLOT 2: 108.
     * STEP 4: CELL 0: -70, -70, -160: SLOT 0: 58; CELL 1: -58, -86, -144: SLOT 0: 90; CELL 0: -106, -70, -160:
     * SLOT 1: 90; CELL 2: -126, -162, -108: SLOT 2: 130.
     * STEP 1: CELL 0: -106, -110, -182: SLOT 0: 95; CELL 1: -95, -126, -166: SLOT 0: 127; CELL 0: -143, -110,
     * -182: SLOT 1: 124; CELL 2: -163, -196, -130: SLOT 2: 164.
     */
    private static void leastNumberBidsFirst() {
        Run run = run("stock 0 1; stock 9 1; stock 900 1; cell 4; cell 0; cell 900");
        run.gives("auction", 12);
        int[][] slots = {{127, 0, 1}, {124, 1, 0}, {164, 2, 2}};
        for (int slot = 0; slot < 3; slot++) {
            for (int what = 0; what < 3; what++) {
                run.then("auction").gives("slot " + slot + " " + what, slots[slot][what]);
            }
        }
    }

    /** "PHASES .., in each of which all BIDDERS are FREE at first, and no SLOT is anybody's, but PRICES stay." */
    private static void phasesBeginAnewButForPrices() {
        Run run = run("stock 0 1; cell 36; shrink 2; auction");
        run.gives("told 7", 3);
        int[] steps = {4, 2, 1};
        for (int phase = 0; phase < 3; phase++) {
            run.gives("phase " + phase + " 0", steps[phase]);
            run.gives("phase " + phase + " 1", 1);
            run.gives("phase " + phase + " 2", 9);
        }
        run.gives("slot 0 0", 4 + 2 + 1);
        run.gives("told 8", 3);
    }

    /**
     * "STEP of the first: a fourth (cut) of the greatest DIFFERENCE of a CELL and a KIND, times SLOTS and 1;
     * .. 1 at the least each time": with one SLOT, the DIFFERENCE by 2, cut.
     */
    private static void firstStepIsAFourth() {
        int[] wants = {0, 1, 2, 3, 4, 5, 6, 7, 8, 9, 9999};
        int[] steps = {1, 1, 1, 1, 2, 2, 3, 3, 4, 4, 18};
        for (int i = 0; i < wants.length; i++) {
            Run run = run("stock 0 1; cell " + wants[i] + "; auction");
            run.gives("phase 0 0", steps[i]);
            run.gives("told 7", steps[i] == 1 ? 1 : steps[i] == 18 ? 3 : 2);
        }
        run("stock 0 1; auction").gives("phase 0 0", 1);
        run("stock 0 2; cell 3; auction").gives("phase 0 0", 9 / 4);
        run("stock 0 2; cell 2; auction").gives("phase 0 0", 1);
        run("stock 0 3; cell 1; auction").gives("phase 0 0", 1);
        run("stock 0 3; cell 2; auction").gives("phase 0 0", 2);
        run("stock 0 3; stock 1 4; cell 1; auction").gives("phase 0 0", 2);
        run("stock 0 3; stock 1 3; cell 1; auction").gives("phase 0 0", 1);
        run("stock 0 4; stock 1 4; stock 2 4; stock 3 4; cell 9999; mode 1; auction").gives("phase 0 0", 1377);
        run("stock 0 4; stock 1 4; stock 2 4; stock 3 4; mode 1; auction").gives("phase 0 0", 1);
    }

    /** ".. the greatest DIFFERENCE of a CELL and a KIND": whichever CELL and KIND it is, and though it has another. */
    private static void greatestDifferenceOfAll() {
        for (int farKind = 0; farKind < 8; farKind++) {
            for (int farCell = 0; farCell < 12; farCell++) {
                String text = "mode 0";
                for (int kind = 0; kind < 8; kind++) {
                    text += "; stock " + (kind == farKind ? 9999 : 4441 + kind) + " 2";
                }
                for (int cell = 0; cell < 12; cell++) {
                    text += "; cell " + (cell == farCell ? 0 : 4444);
                }
                run(text + "; auction").gives("phase 0 0", 36 * 17 / 4);
            }
        }
    }

    /** ".. of each next one: that of the one before by SHRINK .., cut; 1 at the least each time" */
    private static void stepShrinks() {
        for (int shrink = 2; shrink <= 9; shrink++) {
            steps(shrink, shrink - 1, shrink == 2 ? new int[] {1} : new int[] {shrink - 1, 1});
            steps(shrink, shrink, shrink, 1);
            steps(shrink, shrink + 1, shrink + 1, 1);
            steps(shrink, 2 * shrink - 1, 2 * shrink - 1, 1);
            steps(shrink, 2 * shrink, 2 * shrink, 2, 1);
        }
        steps(2, 18, 18, 9, 4, 2, 1);
        steps(3, 18, 18, 6, 2, 1);
        steps(4, 17, 17, 4, 1);
        steps(9, 17, 17, 1);
    }

    /** One SLOT, a DIFFERENCE of twice the first STEP: each PHASE is one BID, the PRICE all STEPS added. */
    private static void steps(int shrink, int first, int... want) {
        int dots = 0;
        for (int left = 2 * first; left > 0; left -= 9) {
            dots = dots * 10 + Math.min(9, left);
        }
        Run run = run("stock 0 1; cell " + dots + "; shrink " + shrink + "; auction");
        int sum = 0;
        for (int phase = 0; phase < want.length; phase++) {
            run.gives("phase " + phase + " 0", want[phase]);
            sum += want[phase];
        }
        run.gives("told 7", want.length);
        run.leavesAll("phase " + want.length + " 0", UNKNOWN);
        run.gives("slot 0 0", sum);
    }

    /** "SHRINK (2 to 9; 4 at first)" */
    private static void shrinkOfTwoToNine() {
        run("").gives("told 1", 4);
        run("").gives("shrink 4", 4);
        steps(4, 16, 16, 4, 1);
        run("stock 0 1; cell 9995; auction").isLike(run("shrink 4; stock 0 1; cell 9995; auction"));
        for (int shrink = 2; shrink <= 9; shrink++) {
            run(States.FEW_DONE).gives("shrink " + shrink, 4);
            run(States.FEW_DONE + "; shrink " + shrink).gives("told 1", shrink);
            for (int wrong : Run.beyond(2, 9)) {
                run("shrink " + shrink).leavesAll("shrink " + wrong, OUTSIDE);
            }
        }
        run(States.FEW_DONE).leavesAll("shrink 1", OUTSIDE);
        run(States.FEW_DONE).leavesAll("shrink 10", OUTSIDE);
        run(States.FEW_DONE).leavesAll("shrink 0", OUTSIDE);
    }

    /** "the one of STEP 1 is the last one": it is there once, also if it is the first. */
    private static void lastStepIsOne() {
        for (int shrink = 2; shrink <= 9; shrink++) {
            for (String state : States.DONE) {
                Run run = run(state + "; shrink " + shrink + "; auction");
                int phases = run.answer("told 7");
                run.gives("phase " + (phases - 1) + " 0", 1);
                for (int phase = 0; phase < phases - 1; phase++) {
                    check.holds("a STEP ahead of the last", run.answer("phase " + phase + " 0") > 1);
                }
                run.leavesAll("phase " + phases + " 0", UNKNOWN);
            }
            run("stock 8 2; cell 8; shrink " + shrink + "; auction").gives("told 7", 1);
        }
    }

    /** "It is VALID as long as MODE, KINDS, STOCKS, how many CELLS there are stay as they were." */
    private static void validAsLong() {
        String[] spoil = {"mode 1", "stock 7 1", "drop 1111", "drop 5555", "stock 1111 1", "stock 5555 3", "cell 1112",
            "remove 0", "remove 1"};
        String[] keep = {"mode 0", "shrink 9", "shrink 4", "change 0 1112", "change 0 0", "change 1 9999", "repair",
            "image 0", "kind 0 3", "find 1111", "difference 0 0", "phase 0 0", "place 0", "slot 0 0", "gain 0 1", "total",
            "told 5", "auction"};
        for (String state : new String[] {States.FEW_DONE, States.FEW_CHANGED, States.FEW_REPAIRED}) {
            for (String call : spoil) {
                Run run = run(state + "; " + call);
                run.gives("told 5", 0);
                run.gives("told 6", 0);
                run.gives("told 7", 0);
                run.gives("told 8", 0);
                run.leavesAll("repair", STATE);
                run.leavesAll("total", STATE);
                run.then("stock 8 1; auction").gives("told 5", 1);
                run.then("stock 8 1; auction").gives("told 6", 1);
            }
            for (String call : keep) {
                run(state + "; " + call).gives("told 5", 1);
            }
        }
        run("stock 3 1").gives("told 5", 0);
        run("stock 8 1; stock 9 1; auction").gives("told 5", 1);
        for (int cell = 0; cell < 12; cell++) {
            run(States.FULL_DONE + "; remove " + cell).gives("told 5", 0);
        }
        for (int kind = 0; kind < 8; kind++) {
            run(States.FULL_DONE + "; drop " + kind * 1111).gives("told 5", 0);
            run("stock 8 1; stock 9 1; auction; stock " + (kind + 2) + " 1").gives("told 5", 0);
        }
    }

    private static void refusedCallsLeaveItValid() {
        String[] refused = {"mode 2", "mode -1", "shrink 1", "stock 10000 1", "stock 0 0", "stock 0 5", "stock 0 1",
            "stock 8 1", "drop 10000", "drop 9", "cell -1", "cell 10000", "cell 0", "change 12 0", "change 0 10000",
            "remove -1", "remove 12", "image 2", "restore 0", "restore 2"};
        for (String state : new String[] {States.FULL_DONE, States.FULL_CHANGED}) {
            int done = run(state).answer("told 6");
            for (String call : refused) {
                run(state + "; " + call).gives("told 5", 1);
                run(state + "; " + call).gives("told 6", done);
                check.holds(call + " is refused", run(state).answer(call) < 0);
            }
        }
    }

    /** ".. stay as they were": what went and came again did not stay, though all is as it was. */
    private static void validAndBackAgain() {
        String[] thereAndBack = {"mode 1; mode 0", "drop 5555; stock 5555 1", "cell 7; remove 2", "remove 1; cell 5554"};
        for (String calls : thereAndBack) {
            Run run = run(States.FEW_DONE + "; " + calls);
            run.gives("told 5", 0);
            run.leavesAll("repair", STATE);
            run.then("auction").isLike(run(States.FEW_DONE));
        }
    }

    /** "If a CELL wants other DOTS than before, it is VALID still, but not DONE" */
    private static void otherDotsThanBefore() {
        for (String state : States.DONE) {
            Run run = run(state);
            for (int cell = 0; cell < run.answer("told 3"); cell++) {
                int dots = run.answer("told " + (100 + cell));
                run.leavesAll("change " + cell + " " + dots, dots);
                int other = dots == 0 ? 1 : dots - 1;
                Run changed = run.then("change " + cell + " " + other);
                changed.gives("told 5", 1);
                changed.gives("told 6", 0);
                changed.then("change " + cell + " " + other).gives("told 6", 0);
                changed.then("change " + cell + " " + dots).gives("told 5", 1);
                changed.then("change " + cell + " " + dots).gives("told 6", 0);
                changed.then("repair").gives("told 6", 1);
                changed.then("auction").gives("told 6", 1);
            }
        }
        run(States.FEW + "; change 0 7; auction").gives("told 6", 1);
    }

    /**
     * "BIDDERS .. whose GAIN by their SLOT is less than the greatest GAIN of any SLOT, less 1".
     * KINDS 0000, 0001. One CELL, of 0000, has SLOT 0 for 4, the IDLE one SLOT 1 for 5 (BidsTest): if it wants
     * 0001, its GAINS are -7, -5. Two CELLS of 0000: PRICES 4, 2, CELL 1 has SLOT 1: if it wants 1000, they are
     * -7, -8; if it wants 1001, -10, -5.
     * One CELL of 0002 has SLOT 1 (WORTHS -6, -3; SLOT 1 for 4, the IDLE one SLOT 0 for 5): if it wants 0000,
     * they are -5, -7.
     */
    private static void lessThanTheGreatestLessOne() {
        Run one = run("stock 0 1; stock 1 1; cell 0; auction");
        one.gives("slot 0 0", 4);
        one.gives("slot 1 0", 5);
        one.then("change 0 1").gives("repair", 2);
        one.then("change 0 1; repair").gives("place 0", 1);
        Run two = run("stock 0 1; stock 1 1; cell 0; cell 0; auction");
        two.gives("slot 0 0", 4);
        two.gives("slot 1 0", 2);
        two.then("change 1 1000").gives("gain 1 1", -7);
        two.then("change 1 1000").gives("repair", 0);
        two.then("change 1 1000; repair").gives("gain 1 0", -8);
        two.then("change 1 1000; repair").gives("gain 1 1", -7);
        two.then("change 1 1000; repair").gives("place 1", 1);
        two.then("change 1 1001").gives("repair", 0);
        two.then("change 1 1001; repair").gives("gain 1 0", -5);
        Run other = run("stock 0 1; stock 1 1; cell 2; auction");
        other.gives("slot 0 0", 5);
        other.gives("slot 1 0", 4);
        other.then("change 0 0").gives("repair", 2);
        other.then("change 0 0; repair").gives("place 0", 0);
    }

    /**
     * "(they lose their SLOTS); then .. one more PHASE of STEP 1, in which only these are FREE at first."
     * As above, with 0001: the CELL bids for SLOT 1: 5 + 2 + 1 = 8; the IDLE one, GAINS -4, -8: SLOT 0: 9.
     * In the other one, with 0000: SLOT 0: 5 + 2 + 1 = 8; the IDLE one, GAINS -8, -4: SLOT 1: 9.
     * Two CELLS of 0000: CELL 0 has SLOT 0 for 4, CELL 1 SLOT 1 for 2; if CELL 0 wants 0001, its GAINS are
     * -7, -2: SLOT 1: 2 + 5 + 1 = 8; CELL 1: -4, -11: SLOT 0: 4 + 7 + 1 = 12.
     */
    private static void onlyTheseAreFree() {
        Run one = run("stock 0 1; stock 1 1; cell 0; auction; change 0 1; repair");
        one.gives("slot 1 0", 8);
        one.gives("slot 0 0", 9);
        one.gives("slot 0 2", NONE);
        one.gives("told 8", 2);
        Run other = run("stock 0 1; stock 1 1; cell 2; auction; change 0 0; repair");
        other.gives("slot 0 0", 8);
        other.gives("slot 1 0", 9);
        Run two = run("stock 0 1; stock 1 1; cell 0; cell 0; auction; change 0 1");
        two.gives("repair", 2);
        two.then("repair").gives("slot 1 0", 8);
        two.then("repair").gives("slot 0 0", 12);
        two.then("repair").gives("slot 0 2", 1);
        two.then("repair").gives("slot 1 2", 0);
        two.then("repair").leavesAll("repair", 0);
        Run swapped = run("stock 0 1; stock 9 1; cell 0; cell 9; auction; change 0 9; change 1 0");
        check.holds("both are FREE", swapped.answer("repair") >= 2);
        swapped.then("repair").gives("total", 0);
    }
}
