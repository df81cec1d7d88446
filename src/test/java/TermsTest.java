/** The Terms, sentence by sentence: at each boundary that they name, on both sides of it, and far beyond it. */
final class TermsTest {
    private static final int UNKNOWN = -1, OUTSIDE = -2, STATE = -3, FULL = -4, NO = -5, NONE = -6, GONE = -100000000;
    private static final Check check = new Check();

    public static void main(String[] args) {
        callsOfAnObject();
        firstRefusalThatFits();
        orderOfItsOwn();
        refusalsChangeNothing();
        dotsAreFourNumbers();
        firstNumberIsThousands();
        dotsDoNotWrapAround();
        eightKinds();
        kindsAreKnownByDots();
        kindsStandInOrder();
        comesAgainAsTheLast();
        stockOfOneToFour();
        twelveCells();
        cellsAreNumbered();
        sixteenInAll();
        modes();
        check.end();
    }

    private static Run run(String text) {
        return new Run(check, text);
    }

    /** "An object is used for at most 512 calls": the 512th is answered like any other, and no later one throws. */
    private static void callsOfAnObject() {
        int bids = run(States.FEW).answer("auction");
        Run behind511 = run(States.FEW + "; " + States.times(507, "auction"));
        behind511.gives("auction", bids);
        behind511.gives("total", run(States.FEW_DONE).answer("total"));
        behind511.gives("cell 3", 3);
        behind511.gives("slot 3 0", UNKNOWN);
        BidMosaic x = run(States.FULL_DONE).play();
        for (int i = 0; i < 2000; i++) {
            x.change(i % 12, i % 2 * 9999);
            x.repair();
        }
    }

    /** "Calls that are refused answer, the first of these that fits: UNKNOWN, OUTSIDE, NO, STATE, FULL." */
    private static void firstRefusalThatFits() {
        Run few = run(States.FEW_DONE);
        few.leavesAll("kind 2 4", UNKNOWN);
        few.leavesAll("kind 1 4", OUTSIDE);
        few.leavesAll("change 2 10000", UNKNOWN);
        few.leavesAll("change 1 10000", OUTSIDE);
        few.leavesAll("drop 10000", OUTSIDE);
        few.leavesAll("drop 9999", NO);
        few.leavesAll("restore 2", OUTSIDE);
        few.leavesAll("restore 1", STATE);
        Run full = run(States.FULL_DONE);
        full.leavesAll("stock 10000 1", OUTSIDE);
        full.leavesAll("stock 0 5", OUTSIDE);
        full.leavesAll("stock 0 1", FULL);
        full.leavesAll("cell 10000", OUTSIDE);
        full.leavesAll("cell 9999", FULL);
    }

    /** ".. in this order", where a promise tells another one: STATE, UNKNOWN, OUTSIDE. */
    private static void orderOfItsOwn() {
        for (String call : new String[] {"phase", "slot"}) {
            run(States.FEW).leavesAll(call + " 99 99", STATE);
            run(States.FEW_DONE).leavesAll(call + " 99 99", UNKNOWN);
            run(States.FEW_DONE).leavesAll(call + " 0 99", OUTSIDE);
        }
        run(States.FEW).leavesAll("gain 99 99", GONE + STATE);
        run(States.FEW_DONE).leavesAll("gain 99 99", GONE + UNKNOWN);
        run(States.FEW_DONE).leavesAll("gain 0 99", GONE + OUTSIDE);
        run(States.FEW).leavesAll("place 99", STATE);
        run(States.FEW_DONE).leavesAll("place 99", UNKNOWN);
    }

    /** "They change nothing": whatever answers less than 0, in whichever state, leaves all as it was. */
    private static void refusalsChangeNothing() {
        int[] some = {Integer.MIN_VALUE, -1, 0, 1, 2, 3, 4, 5, 8, 12, 16, 100, 5555, 9999, 10000, Integer.MAX_VALUE};
        String[] ofOne = {"mode", "shrink", "drop", "find", "cell", "remove", "place", "image", "restore", "told"};
        String[] ofTwo = {"stock", "kind", "change", "difference", "phase", "slot", "gain"};
        for (String state : States.ALL) {
            Run run = run(state);
            for (String call : new String[] {"auction", "repair", "total"}) {
                leavesAllIfRefused(run, call);
            }
            for (int first : some) {
                for (String call : ofOne) {
                    leavesAllIfRefused(run, call + " " + first);
                }
                for (int second : some) {
                    for (String call : ofTwo) {
                        leavesAllIfRefused(run, call + " " + first + " " + second);
                    }
                }
            }
        }
    }

    private static void leavesAllIfRefused(Run run, String call) {
        if (run.answer(call) < 0) {
            check.holds("refused, " + call + " changes nothing", run.isLikeWithout(call));
        }
    }

    /** "DOTS are four numbers 0 to 9, told as one number, 0 to 9999" */
    private static void dotsAreFourNumbers() {
        Run run = run(States.FEW_DONE);
        for (int dots : new int[] {0, 1, 9, 10, 999, 1000, 9998, 9999}) {
            run.gives("stock " + dots + " 1", 1);
            run.then("stock " + dots + " 1").gives("find " + dots, 2);
            run.then("stock " + dots + " 1").gives("kind 2 0", dots);
            run.then("stock " + dots + " 1").gives("drop " + dots, 2);
            run.gives("find " + dots, NONE);
            run.gives("drop " + dots, NO);
            run.gives("cell " + dots, 3);
            run.then("cell " + dots).gives("told 102", dots);
            run.gives("change 0 " + dots, 1112);
            run.then("change 0 " + dots).gives("told 100", dots);
        }
        for (int wrong : Run.beyond(0, 9999)) {
            run.leavesAll("stock " + wrong + " 1", OUTSIDE);
            run.leavesAll("drop " + wrong, OUTSIDE);
            run.leavesAll("find " + wrong, OUTSIDE);
            run.leavesAll("cell " + wrong, OUTSIDE);
            run.leavesAll("change 0 " + wrong, OUTSIDE);
        }
    }

    /** ".. the first one as thousands": a number is held against the one in its place, and no other. */
    private static void firstNumberIsThousands() {
        Run run = run("stock 9000 1; stock 900 1; stock 90 1; stock 9 1; cell 9000; cell 900; cell 90; cell 9; cell 1234");
        int[] ofOthers = {8 + 2 + 3 + 4, 1 + 7 + 3 + 4, 1 + 2 + 6 + 4, 1 + 2 + 3 + 5};
        for (int kind = 0; kind < 4; kind++) {
            for (int cell = 0; cell < 4; cell++) {
                run.gives("difference " + cell + " " + kind, cell == kind ? 0 : 18);
            }
            run.gives("difference 4 " + kind, ofOthers[kind]);
        }
    }

    /** "how far each number is from the other one in its place": 9 and 0 are 9 apart, 1000 and 999 are not 1. */
    private static void dotsDoNotWrapAround() {
        Run run = run("stock 9999 1; stock 0 1; stock 999 1; cell 0; cell 9999; cell 1000");
        run.gives("difference 0 0", 36);
        run.gives("difference 0 1", 0);
        run.gives("difference 1 0", 0);
        run.gives("difference 1 1", 36);
        run.gives("difference 1 2", 9);
        run.gives("difference 2 2", 28);
        run.then("mode 1").gives("difference 0 0", 324);
        run.then("mode 1").gives("difference 1 1", 324);
        run.then("mode 1").gives("difference 0 1", 0);
        run.then("mode 1").gives("difference 2 2", 244);
    }

    /** "KINDS of small pictures, 8 at most" */
    private static void eightKinds() {
        Run seven = run("stock 0 1; stock 1 1; stock 2 1; stock 3 1; stock 4 1; stock 5 1; stock 6 1");
        seven.gives("told 2", 7);
        seven.gives("stock 7 1", 1);
        Run eight = seven.then("stock 7 1; cell 0; auction");
        eight.gives("told 2", 8);
        eight.gives("kind 7 0", 7);
        eight.gives("find 7", 7);
        for (int n = 1; n <= 4; n++) {
            eight.leavesAll("stock 8 " + n, FULL);
            eight.leavesAll("stock 9999 " + n, FULL);
        }
        eight.gives("stock 7 1", 2);
        eight.gives("stock 0 3", 4);
        for (int dots = 0; dots < 8; dots++) {
            eight.then("drop " + dots).gives("stock 8 1", 1);
        }
        eight.then("drop 0; stock 8 1").leavesAll("stock 9 1", FULL);
    }

    /** ".. are known by their DOTS" */
    private static void kindsAreKnownByDots() {
        Run run = run("stock 12 1; stock 1200 1; stock 12 1; stock 1200 2");
        run.gives("told 2", 2);
        run.gives("find 12", 0);
        run.gives("find 1200", 1);
        run.gives("find 120", NONE);
        run.gives("kind 0 1", 2);
        run.gives("kind 1 1", 3);
    }

    /** ".. and stand in the order in which they came, from 0 on" */
    private static void kindsStandInOrder() {
        int[] came = {70, 10, 80, 20, 60, 30, 50, 40};
        String text = "mode 0";
        for (int i = 0; i < came.length; i++) {
            text += "; stock " + came[i] + " 1";
            for (int kind = 0; kind <= i; kind++) {
                run(text).gives("kind " + kind + " 0", came[kind]);
                run(text).gives("find " + came[kind], kind);
            }
            run(text).leavesAll("kind " + (i + 1) + " 0", UNKNOWN);
        }
        Run more = run(text + "; stock 10 1");
        more.gives("find 70", 0);
        more.gives("find 10", 1);
        more.gives("find 80", 2);
    }

    /** "(one that went, and comes again, is the last)" */
    private static void comesAgainAsTheLast() {
        String text = "stock 50 1; stock 30 2; stock 40 3";
        for (int dots = 30; dots <= 50; dots += 10) {
            run(text).gives("drop " + dots, 2);
            run(text + "; drop " + dots).gives("find " + dots, NONE);
            Run again = run(text + "; drop " + dots + "; stock " + dots + " 1");
            again.gives("find " + dots, 2);
            again.gives("kind 2 0", dots);
            again.gives("kind 2 1", 1);
            again.gives("told 2", 3);
        }
        run(text + "; drop 50").isLike(run("stock 30 2; stock 40 3"));
        run(text + "; drop 30").isLike(run("stock 50 1; stock 40 3"));
        run(text + "; drop 40").isLike(run("stock 50 1; stock 30 2"));
        run(text + "; drop 50; stock 50 1").isLike(run("stock 30 2; stock 40 3; stock 50 1"));
        run(text + "; drop 50; drop 40; drop 30").isLike(run(""));
    }

    /** "each has a STOCK of 1 to 4" */
    private static void stockOfOneToFour() {
        for (int n = 1; n <= 4; n++) {
            run("").gives("stock 77 " + n, n);
            Run some = run("stock 77 " + n);
            some.gives("kind 0 1", n);
            for (int more = 1; more <= 4; more++) {
                if (n + more <= 4) {
                    some.gives("stock 77 " + more, n + more);
                    some.then("stock 77 " + more).gives("kind 0 1", n + more);
                } else {
                    some.leavesAll("stock 77 " + more, FULL);
                }
            }
        }
        for (int wrong : Run.beyond(1, 4)) {
            run("").leavesAll("stock 77 " + wrong, OUTSIDE);
            run("stock 77 2; auction").leavesAll("stock 77 " + wrong, OUTSIDE);
        }
    }

    /** "CELLS, 12 at most" */
    private static void twelveCells() {
        Run eleven = run("stock 0 4; stock 1 4; stock 2 4; " + States.times(11, "cell 5"));
        eleven.gives("told 3", 11);
        eleven.gives("cell 6", 12);
        eleven.leavesAll("told 111", OUTSIDE);
        Run twelve = eleven.then("cell 6; auction");
        twelve.gives("told 3", 12);
        twelve.gives("told 111", 6);
        twelve.leavesAll("cell 0", FULL);
        twelve.leavesAll("cell 9999", FULL);
        twelve.then("remove 11").gives("cell 7", 12);
        twelve.then("remove 0").gives("cell 7", 12);
        twelve.then("remove 0; cell 7").leavesAll("cell 7", FULL);
        Run noSlots = run(States.times(12, "cell 5"));
        noSlots.leavesAll("cell 5", FULL);
    }

    /** ".. numbered from 0 on as they came (those behind one that goes are one less)" */
    private static void cellsAreNumbered() {
        StringBuilder text = new StringBuilder("mode 0");
        for (int cell = 0; cell < 12; cell++) {
            text.append("; cell ").append(9000 - 7 * cell);
        }
        for (int gone = 0; gone < 12; gone++) {
            run(text.toString()).gives("told " + (100 + gone), 9000 - 7 * gone);
            Run less = run(text + "; remove " + gone);
            for (int cell = 0; cell < 11; cell++) {
                less.gives("told " + (100 + cell), 9000 - 7 * (cell < gone ? cell : cell + 1));
            }
            less.leavesAll("told 111", OUTSIDE);
            less.then("cell 1").gives("told 111", 1);
        }
    }

    /** "All STOCKS together are 16 at most." */
    private static void sixteenInAll() {
        Run fifteen = run("stock 0 4; stock 1 4; stock 2 4; stock 3 1; stock 4 2");
        fifteen.gives("told 4", 15);
        fifteen.gives("stock 3 1", 2);
        fifteen.gives("stock 5 1", 1);
        for (int n = 2; n <= 4; n++) {
            fifteen.leavesAll("stock 3 " + n, FULL);
            fifteen.leavesAll("stock 5 " + n, FULL);
        }
        Run sixteen = fifteen.then("stock 3 1; auction");
        sixteen.gives("told 4", 16);
        for (int n = 1; n <= 4; n++) {
            sixteen.leavesAll("stock 3 " + n, FULL);
            sixteen.leavesAll("stock 5 " + n, FULL);
        }
        sixteen.then("drop 3").gives("stock 5 2", 2);
        sixteen.then("drop 3").leavesAll("stock 5 3", FULL);
        sixteen.then("drop 3; stock 5 2").gives("told 4", 16);
    }

    /** "MODE 0 (at first): added; MODE 1: their squares, added." */
    private static void modes() {
        Run run = run("stock 1234 1; cell 4321");
        run.gives("told 0", 0);
        run.gives("difference 0 0", 3 + 1 + 1 + 3);
        run.then("mode 1").gives("difference 0 0", 9 + 1 + 1 + 9);
        run.then("mode 1; mode 0").gives("difference 0 0", 8);
        run.then("mode 2").gives("difference 0 0", 8);
        run.then("mode 1; mode 2").gives("difference 0 0", 20);
        run.then("mode 1; mode -1").gives("difference 0 0", 20);
    }
}
