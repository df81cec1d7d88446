/** Promises 1 to 11, sentence by sentence: at each boundary that they name, on both sides of it, and far beyond it. */
final class KindPromisesTest {
    private static final int UNKNOWN = -1, OUTSIDE = -2, STATE = -3, FULL = -4, NO = -5, NONE = -6, GONE = -100000000;
    private static final Check check = new Check();

    public static void main(String[] args) {
        newObject();
        mode();
        shrink();
        stock();
        stockIsOutside();
        stockIsFull();
        drop();
        dropOfNone();
        kind();
        kindThatThereIsNot();
        cellsThatHaveOne();
        find();
        cell();
        change();
        remove();
        difference();
        check.end();
    }

    private static Run run(String text) {
        return new Run(check, text);
    }

    /** 1: "No KINDS, no CELLS." */
    private static void newObject() {
        Run run = run("");
        int[] told = {0, 4, 0, 0, 0, 0, 0, 0, 0};
        for (int what = 0; what < told.length; what++) {
            run.leavesAll("told " + what, told[what]);
        }
        run.leavesAll("told 100", OUTSIDE);
        run.leavesAll("kind 0 0", UNKNOWN);
        run.leavesAll("find 0", NONE);
        run.leavesAll("drop 0", NO);
        run.leavesAll("change 0 0", UNKNOWN);
        run.leavesAll("remove 0", UNKNOWN);
        run.leavesAll("difference 0 0", UNKNOWN);
        run.leavesAll("auction", NO);
        run.leavesAll("repair", STATE);
        run.leavesAll("phase 0 0", STATE);
        run.leavesAll("place 0", STATE);
        run.leavesAll("slot 0 0", STATE);
        run.leavesAll("gain 0 0", GONE + STATE);
        run.leavesAll("gain 0 1", GONE + STATE);
        run.leavesAll("total", STATE);
        run.leavesAll("restore 0", STATE);
        run.leavesAll("restore 1", STATE);
    }

    /** 2: "MODE: which it was. OUTSIDE." */
    private static void mode() {
        for (String state : States.ALL) {
            Run run = run(state);
            int before = run.answer("told 0");
            run.gives("mode 0", before);
            run.gives("mode 1", before);
            run.then("mode 1").gives("told 0", 1);
            run.then("mode 1").gives("mode 0", 1);
            run.then("mode 1; mode 0").gives("told 0", 0);
            run.leavesAll("mode " + before, before);
            for (int wrong : Run.beyond(0, 1)) {
                run.leavesAll("mode " + wrong, OUTSIDE);
            }
        }
    }

    /** 3: "SHRINK: which it was. OUTSIDE." */
    private static void shrink() {
        for (String state : States.ALL) {
            Run run = run(state);
            int before = run.answer("told 1");
            run.gives("shrink 2", before);
            run.gives("shrink 9", before);
            run.then("shrink 2").gives("shrink 9", 2);
            run.then("shrink 9").gives("shrink 2", 9);
            run.leavesAll("shrink " + before, before);
            for (int wrong : Run.beyond(2, 9)) {
                run.leavesAll("shrink " + wrong, OUTSIDE);
            }
            run.leavesAll("shrink 0", OUTSIDE);
        }
        Run done = run(States.FEW_DONE + "; shrink 2");
        done.gives("told 5", 1);
        done.gives("told 6", 1);
        done.gives("phase 0 0", run(States.FEW_DONE).answer("phase 0 0"));
        done.gives("told 7", run(States.FEW_DONE).answer("told 7"));
    }

    /** 4: "So many small pictures more of such DOTS: the STOCK of their KIND." */
    private static void stock() {
        Run run = run("stock 7 1; stock 0 1");
        run.gives("stock 7 1", 2);
        run.gives("stock 7 3", 4);
        run.gives("stock 0 2", 3);
        run.gives("stock 9999 4", 4);
        run.then("stock 7 1; stock 7 1").gives("stock 7 1", 4);
        run.then("stock 7 3").gives("kind 0 1", 4);
        run.then("stock 7 3").gives("kind 1 1", 1);
        run.then("stock 7 3").gives("told 2", 2);
        run.then("stock 7 3").gives("told 4", 5);
    }

    /** 4: "OUTSIDE: no DOTS, 1 to 4": ahead of FULL, for a KIND that is there and for one that is not. */
    private static void stockIsOutside() {
        for (String state : States.ALL) {
            Run run = run(state);
            for (int wrong : Run.beyond(0, 9999)) {
                run.leavesAll("stock " + wrong + " 1", OUTSIDE);
                run.leavesAll("stock " + wrong + " 4", OUTSIDE);
                run.leavesAll("stock " + wrong + " 0", OUTSIDE);
            }
            for (int wrong : Run.beyond(1, 4)) {
                run.leavesAll("stock 1111 " + wrong, OUTSIDE);
                run.leavesAll("stock 1234 " + wrong, OUTSIDE);
                run.leavesAll("stock " + wrong + " " + wrong, OUTSIDE);
            }
        }
    }

    /** 4: "FULL: a ninth KIND, more than 4, more than 16 in all", each without the others. */
    private static void stockIsFull() {
        Run eightOfOne = run("stock 0 1; stock 1 1; stock 2 1; stock 3 1; stock 4 1; stock 5 1; stock 6 1; stock 7 1");
        eightOfOne.leavesAll("stock 8 1", FULL);
        eightOfOne.gives("stock 7 1", 2);
        Run one = run("stock 0 1");
        one.leavesAll("stock 0 4", FULL);
        one.gives("stock 0 3", 4);
        run("stock 0 4").leavesAll("stock 0 1", FULL);
        Run fours = run("stock 0 4; stock 1 4; stock 2 4; stock 3 3");
        fours.leavesAll("stock 4 2", FULL);
        fours.gives("stock 4 1", 1);
        fours.gives("stock 3 1", 4);
        fours.then("stock 3 1").leavesAll("stock 4 1", FULL);
        fours.then("stock 4 1").leavesAll("stock 3 1", FULL);
        run("stock 0 4; stock 1 4; stock 2 2; stock 3 4").leavesAll("stock 2 3", FULL);
        run("stock 0 4; stock 1 4; stock 2 2; stock 3 4").gives("stock 2 2", 4);
        run(States.FULL_DONE).leavesAll("stock 1111 1", FULL);
        run(States.FULL_DONE).leavesAll("stock 1234 1", FULL);
        run(States.FULL + "; drop 0").gives("stock 1111 2", 4);
    }

    /** 5: "A KIND of such DOTS goes: how many there are." */
    private static void drop() {
        for (int gone = 0; gone < 8; gone++) {
            Run run = run(States.FULL_DONE);
            run.gives("drop " + gone * 1111, 7);
            Run less = run.then("drop " + gone * 1111);
            less.gives("told 2", 7);
            less.gives("told 4", 14);
            less.gives("told 3", 12);
            for (int kind = 0; kind < 7; kind++) {
                less.gives("kind " + kind + " 0", 1111 * (kind < gone ? kind : kind + 1));
            }
            less.leavesAll("kind 7 0", UNKNOWN);
            less.leavesAll("drop " + gone * 1111, NO);
        }
        run("stock 0 4").gives("drop 0", 0);
        run("stock 0 4; drop 0").isLike(run(""));
        run("stock 0 3; stock 5 1; stock 9 2").gives("drop 5", 2);
        run("stock 0 3; stock 5 1; stock 9 2; drop 5").isLike(run("stock 0 3; stock 9 2"));
    }

    /** 5: "OUTSIDE; NO: there is none." */
    private static void dropOfNone() {
        for (String state : States.ALL) {
            Run run = run(state);
            for (int wrong : Run.beyond(0, 9999)) {
                run.leavesAll("drop " + wrong, OUTSIDE);
            }
            run.leavesAll("drop 1", NO);
            run.leavesAll("drop 9999", NO);
            run.leavesAll("drop 1112", NO);
        }
    }

    /** 6: "A KIND: DOTS (what = 0), STOCK (1), its first SLOT (2)"; "OUTSIDE". */
    private static void kind() {
        String text = "stock 9999 4; stock 0 1; stock 12 3; stock 3 4; stock 4 1; stock 5 1; stock 6 1; stock 7 1";
        int[][] want = {{9999, 4, 0}, {0, 1, 4}, {12, 3, 5}, {3, 4, 8}, {4, 1, 12}, {5, 1, 13}, {6, 1, 14}, {7, 1, 15}};
        for (Run run : new Run[] {run(text), run(text + "; cell 5; auction"), run(text + "; cell 5; auction; change 0 6")}) {
            for (int kind = 0; kind < want.length; kind++) {
                for (int what = 0; what < 3; what++) {
                    run.leavesAll("kind " + kind + " " + what, want[kind][what]);
                }
                for (int wrong : Run.beyond(0, 3)) {
                    run.leavesAll("kind " + kind + " " + wrong, OUTSIDE);
                }
            }
        }
    }

    /** 6: "UNKNOWN", ahead of OUTSIDE. */
    private static void kindThatThereIsNot() {
        for (String state : States.ALL) {
            Run run = run(state);
            int kinds = run.answer("told 2");
            for (int wrong : Run.beyond(0, kinds - 1)) {
                for (int what = -1; what <= 4; what++) {
                    run.leavesAll("kind " + wrong + " " + what, UNKNOWN);
                }
            }
            run.leavesAll("kind " + kinds + " " + Integer.MAX_VALUE, UNKNOWN);
        }
        run("stock 1 1; stock 2 1; drop 1").gives("kind 0 0", 2);
        run("stock 1 1; stock 2 1; drop 1").leavesAll("kind 1 0", UNKNOWN);
    }

    /** 6: "how many CELLS have one of it (3; 0: there is no VALID AUCTION, or it is not DONE)" */
    private static void cellsThatHaveOne() {
        for (String state : States.WITHOUT_VALID) {
            for (int kind = 0; kind < run(state).answer("told 2"); kind++) {
                run(state).leavesAll("kind " + kind + " 3", 0);
            }
        }
        for (String state : States.NOT_DONE) {
            for (int kind = 0; kind < run(state).answer("told 2"); kind++) {
                run(state).leavesAll("kind " + kind + " 3", 0);
            }
        }
        // All of a KIND, some, and none: IDLE ones have the rest.
        Run run = run("stock 5 2; stock 50 4; stock 500 1; cell 5; cell 5; cell 50; auction");
        run.leavesAll("kind 0 3", 2);
        run.leavesAll("kind 1 3", 1);
        run.leavesAll("kind 2 3", 0);
        run.then("change 2 500").leavesAll("kind 0 3", 0);
        run.then("change 2 500; repair").leavesAll("kind 0 3", 2);
        run.then("change 2 500; repair").leavesAll("kind 1 3", 0);
        run.then("change 2 500; repair").leavesAll("kind 2 3", 1);
        run.then("change 2 50").leavesAll("kind 1 3", 1);
        run("stock 5 4; auction").leavesAll("kind 0 3", 0);
        run("stock 5 4; cell 0; cell 1; cell 2; cell 3; auction").leavesAll("kind 0 3", 4);
    }

    /** 7: "The number of the KIND of such DOTS; NONE. OUTSIDE." */
    private static void find() {
        for (int kind = 0; kind < 8; kind++) {
            run(States.FULL_DONE).leavesAll("find " + kind * 1111, kind);
            run(States.FULL_DONE).leavesAll("find " + (kind * 1111 + 1), NONE);
        }
        for (String state : States.ALL) {
            Run run = run(state);
            run.leavesAll("find 9999", NONE);
            run.leavesAll("find 1", NONE);
            for (int wrong : Run.beyond(0, 9999)) {
                run.leavesAll("find " + wrong, OUTSIDE);
            }
        }
        run("stock 9999 1; stock 0 1").leavesAll("find 9999", 0);
        run("stock 9999 1; stock 0 1").leavesAll("find 0", 1);
        run("stock 9999 1; stock 0 1; drop 9999").leavesAll("find 9999", NONE);
        run("stock 9999 1; stock 0 1; drop 9999").leavesAll("find 0", 0);
        run("stock 9999 1; drop 9999").leavesAll("find 9999", NONE);
        run("stock 9999 1; drop 9999").leavesAll("find 0", NONE);
    }

    /** 8: "A CELL more that wants such DOTS: how many. OUTSIDE; FULL." */
    private static void cell() {
        for (String state : new String[] {"", "stock 3 4; stock 4 4; stock 5 4"}) {
            String text = state;
            for (int cells = 1; cells <= 12; cells++) {
                run(text).gives("cell 9999", cells);
                run(text).gives("cell 0", cells);
                for (int wrong : Run.beyond(0, 9999)) {
                    run(text).leavesAll("cell " + wrong, OUTSIDE);
                }
                text += (text.isEmpty() ? "" : "; ") + "cell " + 801 * cells;
                run(text).gives("told 3", cells);
                run(text).gives("told " + (99 + cells), 801 * cells);
            }
            for (int dots : new int[] {0, 1, 801, 9998, 9999}) {
                run(text).leavesAll("cell " + dots, FULL);
            }
            for (int wrong : Run.beyond(0, 9999)) {
                run(text).leavesAll("cell " + wrong, OUTSIDE);
            }
            run(text + "; remove 5").gives("cell 0", 12);
        }
        run(States.FULL_DONE).leavesAll("cell 0", FULL);
        run(States.FULL_CHANGED).leavesAll("cell 0", FULL);
    }

    /** 9: "A CELL wants others: which it did. UNKNOWN; OUTSIDE." */
    private static void change() {
        for (String state : States.ALL) {
            Run run = run(state);
            int cells = run.answer("told 3");
            for (int cell = 0; cell < cells; cell++) {
                int before = run.answer("told " + (100 + cell));
                run.gives("change " + cell + " 0", before);
                run.gives("change " + cell + " 9999", before);
                run.then("change " + cell + " 9999").gives("change " + cell + " 3", 9999);
                run.then("change " + cell + " 3").gives("told " + (100 + cell), 3);
                run.then("change " + cell + " 3").gives("told 3", cells);
                for (int wrong : Run.beyond(0, 9999)) {
                    run.leavesAll("change " + cell + " " + wrong, OUTSIDE);
                }
                int other = (cell + 1) % cells;
                run.then("change " + cell + " 3").gives("told " + (100 + other), run.answer("told " + (100 + other)));
            }
            for (int wrong : Run.beyond(0, cells - 1)) {
                run.leavesAll("change " + wrong + " 0", UNKNOWN);
                run.leavesAll("change " + wrong + " 9999", UNKNOWN);
                run.leavesAll("change " + wrong + " -1", UNKNOWN);
                run.leavesAll("change " + wrong + " 10000", UNKNOWN);
                run.leavesAll("change " + wrong + " " + wrong, UNKNOWN);
            }
        }
        run("stock 3 2; cell 3; change 0 4").gives("told 5", 0);
        run("stock 3 2; cell 3; change 0 4").leavesAll("repair", STATE);
    }

    /** 10: "A CELL goes: how many there are. UNKNOWN." */
    private static void remove() {
        for (String state : States.ALL) {
            Run run = run(state);
            int cells = run.answer("told 3");
            for (int wrong : Run.beyond(0, cells - 1)) {
                run.leavesAll("remove " + wrong, UNKNOWN);
            }
            for (int cell = 0; cell < cells; cell++) {
                run.gives("remove " + cell, cells - 1);
                Run less = run.then("remove " + cell);
                less.gives("told 3", cells - 1);
                less.leavesAll("remove " + (cells - 1), UNKNOWN);
                less.leavesAll("told " + (99 + cells), OUTSIDE);
            }
        }
        run("cell 5").gives("remove 0", 0);
        run("cell 5; remove 0").isLike(run(""));
        run("cell 5; remove 0").gives("cell 6", 1);
        run("cell 5; cell 6; cell 7; remove 0").isLike(run("cell 6; cell 7"));
        run("cell 5; cell 6; cell 7; remove 1").isLike(run("cell 5; cell 7"));
        run("cell 5; cell 6; cell 7; remove 2").isLike(run("cell 5; cell 6"));
    }

    /** 11: "DIFFERENCE of a CELL and a KIND. UNKNOWN: both." */
    private static void difference() {
        for (String state : States.ALL) {
            Run run = run(state);
            int cells = run.answer("told 3");
            int kinds = run.answer("told 2");
            for (int wrongCell : Run.beyond(0, cells - 1)) {
                for (int kind = 0; kind < kinds; kind++) {
                    run.leavesAll("difference " + wrongCell + " " + kind, UNKNOWN);
                }
                run.leavesAll("difference " + wrongCell + " " + kinds, UNKNOWN);
                run.leavesAll("difference " + wrongCell + " -1", UNKNOWN);
            }
            for (int wrongKind : Run.beyond(0, kinds - 1)) {
                for (int cell = 0; cell < cells; cell++) {
                    run.leavesAll("difference " + cell + " " + wrongKind, UNKNOWN);
                }
                run.leavesAll("difference " + wrongKind + " " + wrongKind, UNKNOWN);
            }
        }
        // CELL 11 is 8811, KIND 7 is 7777; CELL 0 is 0, as KIND 0.
        run(States.FULL).leavesAll("difference 11 7", 1 + 1 + 6 + 6);
        run(States.FULL).leavesAll("difference 0 7", 28);
        run(States.FULL).leavesAll("difference 0 0", 0);
        run(States.FULL).leavesAll("difference 11 0", 18);
        run(States.FULL + "; mode 1").leavesAll("difference 11 7", 1 + 1 + 36 + 36);
        run(States.FULL_CHANGED).leavesAll("difference 11 0", 1 + 7);
        run("cell 5").leavesAll("difference 0 0", UNKNOWN);
        run("stock 5 1").leavesAll("difference 0 0", UNKNOWN);
    }
}
