/** Promises 15 to 21, sentence by sentence: at each boundary that they name, on both sides of it, and far beyond it. */
final class HasPromisesTest {
    private static final int UNKNOWN = -1, OUTSIDE = -2, STATE = -3, NONE = -6, GONE = -100000000;
    /** Numbers for a CELL, a SLOT or a what, when a refusal goes ahead of all that they could be wrong in. */
    private static final int[] WILD = {-1, 0, 1, 2, 3, 11, 12, 15, 16, Integer.MIN_VALUE, Integer.MAX_VALUE};
    /** KINDS 0000, 0005, 0005; CELL 0 has SLOT 1 for 11, CELL 1 SLOT 0 for 31, an IDLE one SLOT 2 for 12. */
    private static final String THREE = "stock 0 1; stock 5 2; cell 4; cell 0; auction";
    private static final Check check = new Check();

    public static void main(String[] args) {
        place();
        placeIsRefused();
        slot();
        slotWithoutAuction();
        slotThatThereIsNot();
        slotOfAnotherNumber();
        gain();
        gainWithoutAuction();
        gainOfNoCell();
        gainOfAnotherNumber();
        total();
        totalIsRefused();
        image();
        imageKeepsAll();
        imagesAreApart();
        restoreIsRefused();
        told();
        toldOfAuctions();
        toldOfCells();
        toldOfAnotherNumber();
        check.end();
    }

    private static Run run(String text) {
        return new Run(check, text);
    }

    /** 15: "The KIND that a CELL has." */
    private static void place() {
        run(THREE).leavesAll("place 0", 1);
        run(THREE).leavesAll("place 1", 0);
        run("stock 9 1; cell 0; auction").leavesAll("place 0", 0);
        // The last of 12 CELLS has the last of 8 KINDS, which is its own.
        String text = "mode 0";
        for (int kind = 0; kind < 8; kind++) {
            text += "; stock " + kind * 1111 + " 2";
        }
        for (int cell = 0; cell < 12; cell++) {
            text += "; cell " + (cell + 4) / 2 * 1111;
        }
        for (int cell = 0; cell < 12; cell++) {
            run(text + "; auction").leavesAll("place " + cell, (cell + 4) / 2);
        }
    }

    /** 15: "STATE, likewise, or it is not DONE; UNKNOWN; in this order." */
    private static void placeIsRefused() {
        for (String[] states : new String[][] {States.WITHOUT_VALID, States.NOT_DONE}) {
            for (String state : states) {
                for (int cell : WILD) {
                    run(state).leavesAll("place " + cell, STATE);
                }
            }
        }
        for (String state : States.DONE) {
            Run run = run(state);
            int cells = run.answer("told 3");
            check.holds("the last CELL has a KIND", run.answer("place " + (cells - 1)) >= 0);
            for (int wrong : Run.beyond(0, cells - 1)) {
                run.leavesAll("place " + wrong, UNKNOWN);
            }
        }
        run("stock 0 4; auction").leavesAll("place 0", UNKNOWN);
    }

    /** 16: "A SLOT: PRICE (what = 0), KIND (1), the CELL that has it (2; NONE: an IDLE BIDDER has)." */
    private static void slot() {
        int[][] want = {{31, 0, 1}, {11, 1, 0}, {12, 1, NONE}};
        for (int slot = 0; slot < 3; slot++) {
            for (int what = 0; what < 3; what++) {
                run(THREE).leavesAll("slot " + slot + " " + what, want[slot][what]);
                run(THREE + "; change 0 9").leavesAll("slot " + slot + " " + what, what == 2 ? STATE : want[slot][what]);
            }
        }
        Run most = run("stock 3 4; stock 2 4; stock 1 4; stock 0 4; auction");
        most.leavesAll("slot 15 0", 2);
        most.leavesAll("slot 15 1", 3);
        most.leavesAll("slot 15 2", NONE);
        run("stock 3 1; cell 3; auction").leavesAll("slot 0 2", 0);
    }

    /** 16: "STATE: there is no VALID AUCTION; (2: or it is not DONE)", ahead of all others. */
    private static void slotWithoutAuction() {
        for (String state : States.WITHOUT_VALID) {
            for (int slot : WILD) {
                for (int what : WILD) {
                    run(state).leavesAll("slot " + slot + " " + what, STATE);
                }
            }
        }
        for (String state : States.NOT_DONE) {
            for (int slot : WILD) {
                run(state).leavesAll("slot " + slot + " 2", STATE);
            }
            check.holds("the PRICE of what is not DONE", run(state).answer("slot 0 0") > 0);
            run(state).leavesAll("slot 0 1", 0);
        }
    }

    /** 16: "UNKNOWN", ahead of OUTSIDE. */
    private static void slotThatThereIsNot() {
        for (String state : States.DONE) {
            Run run = run(state);
            int slots = run.answer("told 4");
            run.leavesAll("slot " + (slots - 1) + " 1", run.answer("told 2") - 1);
            for (int wrong : Run.beyond(0, slots - 1)) {
                for (int what : new int[] {-1, 0, 1, 2, 3, Integer.MIN_VALUE, Integer.MAX_VALUE}) {
                    run.leavesAll("slot " + wrong + " " + what, UNKNOWN);
                }
            }
        }
        for (String state : States.NOT_DONE) {
            Run run = run(state);
            for (int wrong : Run.beyond(0, run.answer("told 4") - 1)) {
                for (int what : new int[] {-1, 0, 1, 3, Integer.MIN_VALUE, Integer.MAX_VALUE}) {
                    run.leavesAll("slot " + wrong + " " + what, UNKNOWN);
                }
            }
        }
    }

    /** 16: "OUTSIDE; in this order." */
    private static void slotOfAnotherNumber() {
        for (String[] states : new String[][] {States.DONE, States.NOT_DONE}) {
            for (String state : states) {
                Run run = run(state);
                for (int wrong : Run.beyond(0, 2)) {
                    run.leavesAll("slot 0 " + wrong, OUTSIDE);
                    run.leavesAll("slot " + (run.answer("told 4") - 1) + " " + wrong, OUTSIDE);
                }
            }
        }
    }

    /**
     * 17: "GAIN of a CELL by its SLOT (what = 0), the greatest of all SLOTS (1)."
     * KINDS 0000, 0001, two CELLS of 0000: PRICES 4, 2, CELL 1 has SLOT 1: GAINS -4, -5.
     */
    private static void gain() {
        run(THREE).leavesAll("gain 0 0", -4 - 11);
        run(THREE).leavesAll("gain 0 1", -4 - 11);
        run(THREE).leavesAll("gain 1 0", 0 - 31);
        run(THREE).leavesAll("gain 1 1", 0 - 31);
        run(THREE + "; change 1 5").leavesAll("gain 1 1", 0 - 11);
        run(THREE + "; change 0 0").leavesAll("gain 0 1", -20 - 11);
        Run oneLess = run("stock 0 1; stock 1 1; cell 0; cell 0; auction");
        oneLess.leavesAll("gain 0 0", -4);
        oneLess.leavesAll("gain 0 1", -4);
        oneLess.leavesAll("gain 1 0", -3 - 2);
        oneLess.leavesAll("gain 1 1", -4);
        // The greatest is by the first, and by the last, of 16 SLOTS.
        Run first = run("stock 0 1; stock 1 3; stock 2 4; stock 3 4; stock 4 4; cell 0; auction");
        first.gives("place 0", 0);
        check.due("by the first", first.answer("gain 0 1"), -first.answer("slot 0 0"));
        Run last = run("stock 1 3; stock 2 4; stock 3 4; stock 4 4; stock 0 1; cell 0; auction");
        last.gives("place 0", 4);
        check.due("by the last", last.answer("gain 0 1"), -last.answer("slot 15 0"));
    }

    /** 17: "STATE, likewise (0: or it is not DONE)", ahead of all others; "all as GONE and it". */
    private static void gainWithoutAuction() {
        for (String state : States.WITHOUT_VALID) {
            for (int cell : WILD) {
                for (int what : WILD) {
                    run(state).leavesAll("gain " + cell + " " + what, -100000003);
                }
            }
        }
        for (String state : States.NOT_DONE) {
            for (int cell : WILD) {
                run(state).leavesAll("gain " + cell + " 0", -100000003);
            }
            int greatest = run(state).answer("gain 0 1");
            check.holds("the greatest GAIN of what is not DONE: " + greatest, greatest < 0 && greatest > GONE / 100);
        }
    }

    /** 17: "UNKNOWN", ahead of OUTSIDE; IDLE ones are no CELLS. */
    private static void gainOfNoCell() {
        for (String state : States.DONE) {
            Run run = run(state);
            for (int wrong : Run.beyond(0, run.answer("told 3") - 1)) {
                for (int what : new int[] {-1, 0, 1, 2, Integer.MIN_VALUE, Integer.MAX_VALUE}) {
                    run.leavesAll("gain " + wrong + " " + what, -100000001);
                }
            }
        }
        for (String state : States.NOT_DONE) {
            Run run = run(state);
            for (int wrong : Run.beyond(0, run.answer("told 3") - 1)) {
                for (int what : new int[] {-1, 1, 2, Integer.MIN_VALUE, Integer.MAX_VALUE}) {
                    run.leavesAll("gain " + wrong + " " + what, -100000001);
                }
            }
        }
        run("stock 0 4; auction").leavesAll("gain 0 0", -100000001);
        run("stock 0 4; auction").leavesAll("gain 0 1", -100000001);
    }

    /** 17: "OUTSIDE; in this order" */
    private static void gainOfAnotherNumber() {
        for (String[] states : new String[][] {States.DONE, States.NOT_DONE}) {
            for (String state : states) {
                Run run = run(state);
                for (int wrong : Run.beyond(0, 1)) {
                    run.leavesAll("gain 0 " + wrong, -100000002);
                    run.leavesAll("gain " + (run.answer("told 3") - 1) + " " + wrong, -100000002);
                }
            }
        }
    }

    /** 18: "DIFFERENCES of all CELLS and what they have, added." None, one, and the greatest there can be. */
    private static void total() {
        run("stock 0 4; auction").leavesAll("total", 0);
        run("stock 0 1; cell 0; auction").leavesAll("total", 0);
        run("stock 0 1; cell 9999; auction").leavesAll("total", 36);
        run(THREE).leavesAll("total", 1);
        run(THREE + "; change 0 9; repair").leavesAll("total", 4);
        run(THREE + "; mode 1; change 0 9; auction").leavesAll("total", 16);
        Run most = run("mode 1; stock 0 4; stock 1 4; stock 10 4; " + States.times(12, "cell 9999") + "; auction");
        most.leavesAll("total", 4 * 324 + 8 * (3 * 81 + 64));
    }

    /** 18: "STATE, likewise, or it is not DONE." */
    private static void totalIsRefused() {
        for (String[] states : new String[][] {States.WITHOUT_VALID, States.NOT_DONE}) {
            for (String state : states) {
                run(state).leavesAll("total", STATE);
            }
        }
        for (String state : States.DONE) {
            check.holds("a total of what is DONE", run(state).answer("total") >= 0);
        }
    }

    /** 19: "All is kept in an IMAGE (0, 1): 1. OUTSIDE." */
    private static void image() {
        for (String state : States.ALL) {
            Run run = run(state);
            for (int k = 0; k < 2; k++) {
                run.gives("image " + k, 1);
                run.then("image " + k).isLike(run);
                run.then("image " + k).gives("restore " + k, 1);
                run.then("image " + k).gives("image " + k, 1);
            }
            for (int wrong : Run.beyond(0, 1)) {
                run.leavesAll("image " + wrong, OUTSIDE);
            }
        }
        run("image 0").leavesAll("restore 1", STATE);
        run("image 1").leavesAll("restore 0", STATE);
    }

    /** 20: "It is as it was when it was kept: 1." Whatever came since, once, and once more. */
    private static void imageKeepsAll() {
        String[] since = {"mode 0", "mode 1", "shrink 2", "stock 8888 1", "stock 1111 1", "drop 1111", "drop 0", "cell 8",
            "change 0 8888", "change 1 17; repair", "remove 0", "auction", "shrink 3; auction", "mode 1; auction",
            "drop 1111; stock 4321 4; remove 1; cell 8765; shrink 9; mode 1; auction; change 0 1; repair; change 0 2"};
        for (String state : States.ALL) {
            for (int k = 0; k < 2; k++) {
                for (String calls : since) {
                    Run run = run(state + (state.isEmpty() ? "" : "; ") + "image " + k + "; " + calls);
                    run.gives("restore " + k, 1);
                    run.then("restore " + k).isLike(run(state));
                    run.then("restore " + k + "; " + calls + "; restore " + k).isLike(run(state));
                }
            }
        }
    }

    /** Each IMAGE is one of its own, and is kept anew whenever it is asked for. */
    private static void imagesAreApart() {
        String both = States.FEW_CHANGED + "; image 0; mode 1; drop 5555; stock 3 4; auction; image 1; remove 0; shrink 9";
        run(both + "; restore 0").isLike(run(States.FEW_CHANGED));
        run(both + "; restore 1").isLike(run(States.FEW_CHANGED + "; mode 1; drop 5555; stock 3 4; auction"));
        run(both + "; restore 0; restore 1").isLike(run(both + "; restore 1"));
        run(both + "; restore 1; restore 0").isLike(run(both + "; restore 0"));
        run(both + "; image 0; restore 1; restore 0").isLike(run(both));
        run(both + "; restore 0; image 1; mode 0; auction; restore 1").isLike(run(States.FEW_CHANGED));
        run(both + "; restore 0").isUnlike(run(both + "; restore 1"));
        run("image 0; " + States.FULL_DONE + "; image 1; restore 0").isLike(run(""));
        run("image 0; " + States.FULL_DONE + "; image 1; restore 0; restore 1").isLike(run(States.FULL_DONE));
    }

    /** 20: "OUTSIDE; STATE: it was not." */
    private static void restoreIsRefused() {
        for (String state : States.ALL) {
            Run run = run(state);
            for (int wrong : Run.beyond(0, 1)) {
                run.leavesAll("restore " + wrong, OUTSIDE);
                run.then("image 0; image 1").leavesAll("restore " + wrong, OUTSIDE);
            }
            run.leavesAll("restore 1", STATE);
            run.then("image 0").leavesAll("restore 1", STATE);
            run.then("image 0; restore 0").leavesAll("restore 1", STATE);
            run.then("image 2; image -1").leavesAll("restore 1", STATE);
        }
        run("image 1; image 1").leavesAll("restore 0", STATE);
        run(States.FULL_DONE).leavesAll("restore 0", STATE);
    }

    /** 21: "0 MODE, 1 SHRINK, 2 KINDS, 3 CELLS, 4 SLOTS" */
    private static void told() {
        int[] none = {0, 4, 0, 0, 0};
        int[] few = {0, 4, 2, 2, 3};
        int[] full = {0, 4, 8, 12, 16};
        for (int what = 0; what < 5; what++) {
            run("").leavesAll("told " + what, none[what]);
            run(States.FEW_DONE).leavesAll("told " + what, few[what]);
            run(States.FULL_DONE).leavesAll("told " + what, full[what]);
        }
        run("mode 1").leavesAll("told 0", 1);
        run("shrink 2").leavesAll("told 1", 2);
        run("shrink 9").leavesAll("told 1", 9);
        run("stock 5 4").leavesAll("told 2", 1);
        run("stock 5 4").leavesAll("told 4", 4);
        run("cell 5").leavesAll("told 3", 1);
    }

    /**
     * 21: "5 whether there is a VALID AUCTION (1, 0), 6 whether it is DONE (1, 0), 7 PHASES of the last one
     * (0: it is not VALID), 8 BIDS of the last AUCTION, or REPAIR (0, likewise)"
     */
    private static void toldOfAuctions() {
        for (String state : States.WITHOUT_VALID) {
            tolds(state, 0, 0, 0, 0);
        }
        // STEPS 9 * 2 / 4 = 4, 1: one BID each.
        String one = "stock 0 1; cell 9; auction";
        tolds(one, 1, 1, 2, 2);
        tolds(one + "; repair", 1, 1, 2, 2);
        tolds(one + "; change 0 8", 1, 0, 2, 2);
        tolds(one + "; change 0 8; repair", 1, 1, 2, 0);
        tolds(one + "; change 0 8; repair; change 0 7", 1, 0, 2, 0);
        tolds(one + "; change 0 1; auction", 1, 1, 1, 1);
        tolds(one + "; mode 1", 0, 0, 0, 0);
        tolds(one + "; change 0 8; mode 1", 0, 0, 0, 0);
        tolds(one + "; change 0 8; cell 7", 0, 0, 0, 0);
        tolds(one + "; image 0; remove 0; restore 0", 1, 1, 2, 2);
        tolds("stock 0 1; stock 1 1; cell 0; auction", 1, 1, 1, 2);
        tolds("stock 0 1; stock 1 1; cell 0; auction; change 0 1; repair; drop 0", 0, 0, 0, 0);
    }

    private static void tolds(String state, int valid, int done, int phases, int bids) {
        run(state).leavesAll("told 5", valid);
        run(state).leavesAll("told 6", done);
        run(state).leavesAll("told 7", phases);
        run(state).leavesAll("told 8", bids);
    }

    /** 21: "100 and a CELL: the DOTS that it wants." */
    private static void toldOfCells() {
        for (String state : States.ALL) {
            Run run = run(state);
            int cells = run.answer("told 3");
            for (int cell = 0; cell < cells; cell++) {
                run.then("change " + cell + " 4711").gives("told " + (100 + cell), 4711);
            }
            for (int cell = cells; cell < 14; cell++) {
                run.leavesAll("told " + (100 + cell), OUTSIDE);
            }
        }
        run(States.FULL).leavesAll("told 100", 0);
        run(States.FULL).leavesAll("told 111", 11 * 801);
        run(States.FULL).leavesAll("told 112", OUTSIDE);
        run("cell 9999").leavesAll("told 100", 9999);
        run("cell 9999").leavesAll("told 101", OUTSIDE);
    }

    /** 21: "OUTSIDE." */
    private static void toldOfAnotherNumber() {
        int[] wrong = {-1, -2, -6, -99, -100, -101, 9, 10, 11, 50, 98, 99, 112, 113, 199, 200, 1000, 65536, 65636,
            Integer.MIN_VALUE, Integer.MIN_VALUE + 1, Integer.MIN_VALUE + 99, Integer.MIN_VALUE + 100,
            Integer.MIN_VALUE + 101, Integer.MIN_VALUE + 111, Integer.MAX_VALUE - 100, Integer.MAX_VALUE - 1, Integer.MAX_VALUE};
        for (String state : States.ALL) {
            for (int what : wrong) {
                run(state).leavesAll("told " + what, OUTSIDE);
            }
        }
    }
}
