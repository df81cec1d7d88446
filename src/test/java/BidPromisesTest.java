/** Promises 12 to 14, sentence by sentence: at each boundary that they name, on both sides of it, and far beyond it. */
final class BidPromisesTest {
    private static final int UNKNOWN = -1, OUTSIDE = -2, STATE = -3, NO = -5, NONE = -6;
    /** 16 SLOTS, a DIFFERENCE of 324: STEPS from 1377 on. */
    private static final String FARTHEST = "mode 1; stock 0 4; stock 1 4; stock 2 4; stock 3 4; cell 9999";
    private static final Check check = new Check();

    public static void main(String[] args) {
        bidsInAllPhases();
        noSlots();
        fewerSlotsThanCells();
        bidsOfARepair();
        repairOfWhatIsDone();
        repairWithoutAuction();
        phase();
        sumOfAPhase();
        mostPhases();
        phasesOfTheLastAuction();
        phaseWithoutAuction();
        phaseThatThereIsNot();
        phaseOfAnotherNumber();
        check.end();
    }

    private static Run run(String text) {
        return new Run(check, text);
    }

    /** 12: "The AUCTION: BIDS in all its PHASES." One BID at the least for each SLOT in each PHASE. */
    private static void bidsInAllPhases() {
        run("stock 0 1").gives("auction", 1);
        run("stock 0 4; stock 1 4; stock 2 4; stock 3 4").gives("auction", 16);
        run("stock 0 1; cell 4").gives("auction", 2);
        for (String state : new String[] {States.FEW, States.FEW_CHANGED, States.FULL, States.FULL_CHANGED, FARTHEST}) {
            Run run = run(state + "; auction");
            int sum = 0;
            for (int phase = 0; phase < run.answer("told 7"); phase++) {
                int bids = run.answer("phase " + phase + " 1");
                check.holds("one BID at the least for each SLOT", bids >= run.answer("told 4"));
                sum += bids;
            }
            run(state).gives("auction", sum);
            run.gives("told 8", sum);
            run.gives("auction", sum);
        }
    }

    /** 12: "NO: there are no SLOTS" */
    private static void noSlots() {
        run("").leavesAll("auction", NO);
        run("cell 5").leavesAll("auction", NO);
        run(States.times(12, "cell 5")).leavesAll("auction", NO);
        run("stock 5 1; drop 5").leavesAll("auction", NO);
        run("stock 5 1; auction; drop 5").leavesAll("auction", NO);
        run("stock 5 1").gives("auction", 1);
        run("stock 5 1; drop 5; stock 6 1").gives("auction", 1);
    }

    /** 12: "or fewer than CELLS": one fewer, as many, one more. */
    private static void fewerSlotsThanCells() {
        String stocks = "stock 0 1";
        for (int slots = 1; slots <= 12; slots++) {
            String text = stocks;
            for (int cells = 0; cells < slots; cells++) {
                check.holds("more SLOTS than CELLS", run(text).answer("auction") >= slots);
                text += "; cell 5";
            }
            check.holds("as many SLOTS as CELLS", run(text).answer("auction") >= slots);
            for (int slot = 0; slot < slots; slot++) {
                check.holds("no IDLE one", run(text + "; auction").answer("slot " + slot + " 2") != NONE);
            }
            if (slots < 12) {
                run(text + "; cell 5").leavesAll("auction", NO);
                run(text + "; auction; cell 5").leavesAll("auction", NO);
                run(text + "; auction; cell 5").gives("told 5", 0);
                run(text + "; cell 5; auction; remove 0; auction").gives("told 6", 1);
            }
            stocks += "; stock " + slots / 4 + " 1";
        }
        run(States.TOO_FEW_SLOTS).leavesAll("auction", NO);
        run(States.times(12, "cell 5") + "; stock 0 4; stock 1 4; stock 2 3").leavesAll("auction", NO);
        run(States.times(12, "cell 5") + "; stock 0 1").leavesAll("auction", NO);
        run(States.FULL_DONE + "; drop 0; drop 1111").gives("told 4", 12);
        check.holds("12 of both", run(States.FULL_DONE + "; drop 0; drop 1111").answer("auction") >= 12);
        run(States.FULL_DONE + "; drop 0; drop 1111; drop 2222").leavesAll("auction", NO);
    }

    /** 13: "A REPAIR: BIDS in it": none, if all are content; it is DONE then. */
    private static void bidsOfARepair() {
        Run alone = run("stock 0 1; cell 9; auction; change 0 0");
        alone.gives("told 6", 0);
        alone.gives("repair", 0);
        alone.then("repair").gives("told 6", 1);
        alone.then("repair").gives("told 8", 0);
        alone.then("repair").gives("total", 0);
        alone.then("repair").gives("slot 0 0", 4 + 1);
        Run taken = run("stock 0 1; stock 1 1; cell 0; auction; change 0 1");
        taken.gives("repair", 2);
        taken.then("repair").gives("told 8", 2);
        taken.then("repair").gives("told 5", 1);
        taken.then("repair").gives("told 6", 1);
        for (String state : States.NOT_DONE) {
            int bids = run(state).answer("repair");
            check.holds("a REPAIR is not refused", bids >= 0);
            run(state + "; repair").gives("told 8", bids);
            run(state + "; repair").gives("told 6", 1);
        }
    }

    /** 13: "0, and nothing changes, if it is DONE" */
    private static void repairOfWhatIsDone() {
        for (String state : States.DONE) {
            run(state).leavesAll("repair", 0);
            run(state + "; repair").leavesAll("repair", 0);
        }
        run("stock 0 1; auction").leavesAll("repair", 0);
        run("stock 0 1; stock 1 1; cell 0; auction; change 0 1; repair").leavesAll("repair", 0);
        run("stock 0 1; stock 1 1; cell 0; auction; change 0 0").leavesAll("repair", 0);
        run(States.FEW_DONE + "; image 0; change 0 3; restore 0").leavesAll("repair", 0);
    }

    /** 13: "STATE: there is no VALID AUCTION." */
    private static void repairWithoutAuction() {
        for (String state : States.WITHOUT_VALID) {
            run(state).leavesAll("repair", STATE);
        }
        for (String state : new String[] {States.FEW_DONE, States.FEW_CHANGED, States.FEW_REPAIRED}) {
            for (String call : new String[] {"mode 1", "stock 1111 1", "stock 0 1", "drop 5555", "cell 0", "remove 0"}) {
                run(state + "; " + call).leavesAll("repair", STATE);
                run(state + "; " + call + "; change 0 17").leavesAll("repair", STATE);
            }
        }
        run(States.FEW + "; image 0; auction; restore 0").leavesAll("repair", STATE);
    }

    /** 14: "Of the last AUCTION a PHASE: STEP (what = 0), BIDS (1)", of one SLOT, so of one BID each. */
    private static void phase() {
        Run run = run("stock 0 1; cell 9999; auction");
        int[] steps = {18, 4, 1};
        for (int phase = 0; phase < 3; phase++) {
            run.leavesAll("phase " + phase + " 0", steps[phase]);
            run.leavesAll("phase " + phase + " 1", 1);
            run.leavesAll("phase " + phase + " 2", 36);
        }
        Run lone = run("stock 0 1; auction");
        lone.leavesAll("phase 0 0", 1);
        lone.leavesAll("phase 0 1", 1);
        lone.leavesAll("phase 0 2", 0);
        lone.leavesAll("phase 1 0", UNKNOWN);
    }

    /** 14: "the DIFFERENCES of all CELLS and what they had then, added (2)": what they had in that PHASE (BidTermsTest). */
    private static void sumOfAPhase() {
        Run run = run("stock 0 1; stock 9 1; cell 9004; cell 9003; auction");
        int[] sums = {28, 26, 26};
        for (String more : new String[] {"told 0", "change 0 0", "change 0 0; repair", "change 0 0; change 1 0; repair"}) {
            for (int phase = 0; phase < 3; phase++) {
                run.then(more).leavesAll("phase " + phase + " 2", sums[phase]);
            }
        }
        run.gives("total", 26);
        run("stock 0 4; auction").leavesAll("phase 0 2", 0);
        Run greatest = run("mode 1; stock 0 4; " + States.times(4, "cell 9999") + "; auction");
        greatest.leavesAll("phase 0 2", 4 * 324);
        greatest.gives("total", 4 * 324);
    }

    /** The most PHASES that there can be: the greatest STEP, and the least SHRINK. */
    private static void mostPhases() {
        Run most = run(FARTHEST + "; shrink 2; auction");
        int[] steps = {1377, 688, 344, 172, 86, 43, 21, 10, 5, 2, 1};
        for (int phase = 0; phase < steps.length; phase++) {
            most.leavesAll("phase " + phase + " 0", steps[phase]);
        }
        most.gives("told 7", 11);
        most.leavesAll("phase 11 0", UNKNOWN);
        Run fewest = run(FARTHEST + "; shrink 9; auction");
        fewest.gives("told 7", 4);
        fewest.leavesAll("phase 3 0", 1);
        fewest.leavesAll("phase 4 0", UNKNOWN);
    }

    /** 14: "Of the last AUCTION": fewer PHASES than the one before had, or more; a REPAIR is no AUCTION. */
    private static void phasesOfTheLastAuction() {
        Run fewer = run("stock 0 1; cell 9999; auction; change 0 0; auction");
        fewer.leavesAll("phase 0 0", 1);
        fewer.leavesAll("phase 1 0", UNKNOWN);
        fewer.leavesAll("phase 2 0", UNKNOWN);
        Run more = run("stock 0 1; cell 0; auction; change 0 9999; auction");
        more.leavesAll("phase 0 0", 18);
        more.leavesAll("phase 2 0", 1);
        more.leavesAll("phase 3 0", UNKNOWN);
        Run repaired = run("stock 0 1; stock 1 1; cell 0; auction; change 0 1; repair");
        repaired.leavesAll("phase 0 0", 1);
        repaired.leavesAll("phase 0 1", 2);
        repaired.leavesAll("phase 1 0", UNKNOWN);
        repaired.gives("told 7", 1);
        run("stock 0 1; cell 9999; auction; shrink 9").leavesAll("phase 1 0", 4);
    }

    /** 14: "STATE, likewise": ahead of all others. */
    private static void phaseWithoutAuction() {
        for (String state : States.WITHOUT_VALID) {
            for (int phase : new int[] {0, 1, -1, 11, 16, Integer.MIN_VALUE, Integer.MAX_VALUE}) {
                for (int what : new int[] {0, 1, 2, -1, 3, Integer.MIN_VALUE, Integer.MAX_VALUE}) {
                    run(state).leavesAll("phase " + phase + " " + what, STATE);
                }
            }
        }
        // A VALID one is enough: it need not be DONE.
        for (String state : States.NOT_DONE) {
            check.holds("a STEP is told of what is not DONE", run(state).answer("phase 0 0") >= 1);
        }
    }

    /** 14: "UNKNOWN", ahead of OUTSIDE. */
    private static void phaseThatThereIsNot() {
        for (String state : new String[] {States.FEW_DONE, States.FEW_CHANGED, States.FULL_DONE, States.FULL_CHANGED}) {
            Run run = run(state);
            int phases = run.answer("told 7");
            check.holds("the last one is there", run.answer("phase " + (phases - 1) + " 0") == 1);
            for (int wrong : Run.beyond(0, phases - 1)) {
                for (int what : new int[] {0, 1, 2, -1, 3, Integer.MIN_VALUE, Integer.MAX_VALUE}) {
                    run.leavesAll("phase " + wrong + " " + what, UNKNOWN);
                }
            }
        }
    }

    /** 14: "OUTSIDE; in this order." */
    private static void phaseOfAnotherNumber() {
        for (String state : new String[] {States.FEW_DONE, States.FEW_CHANGED, States.FULL_DONE, States.FULL_CHANGED}) {
            Run run = run(state);
            for (int wrong : Run.beyond(0, 2)) {
                run.leavesAll("phase 0 " + wrong, OUTSIDE);
                run.leavesAll("phase " + (run.answer("told 7") - 1) + " " + wrong, OUTSIDE);
            }
        }
    }
}
