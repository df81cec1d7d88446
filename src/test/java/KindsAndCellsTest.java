/** Promises 1 to 11: a new object, mode, shrink, stock, drop, kind, find, cell, change, remove, difference. */
final class KindsAndCellsTest {
    private static final int[] NO_DOTS = {-1, 10000, Integer.MIN_VALUE, Integer.MAX_VALUE};
    private static final Check check = new Check();

    public static void main(String[] args) {
        newObject();
        mode();
        modeAndTheAuction();
        shrink();
        stock();
        stockIsFull();
        stockAndTheAuction();
        drop();
        kind();
        find();
        cell();
        change();
        changeAndTheAuction();
        remove();
        difference();
        check.end();
    }

    private static void newObject() {
        BidMosaic x = new BidMosaic();
        int[] told = {0, 4, 0, 0, 0, 0, 0, 0, 0};
        for (int what = 0; what < told.length; what++) {
            check.due("new: told(" + what + ")", x.told(what), told[what]);
        }
        check.due("new: told(100)", x.told(100), BidMosaic.OUTSIDE);
        check.due("new: kind(0, 0)", x.kind(0, 0), BidMosaic.UNKNOWN);
        check.due("new: change(0, 0)", x.change(0, 0), BidMosaic.UNKNOWN);
        check.due("new: restore(0)", x.restore(0), BidMosaic.STATE);
        check.due("new: restore(1)", x.restore(1), BidMosaic.STATE);
        BidMosaic other = new BidMosaic();
        x.stock(1, 1);
        x.cell(1);
        x.mode(1);
        x.shrink(9);
        x.image(0);
        for (int what = 0; what < told.length; what++) {
            check.due("the other one: told(" + what + ")", other.told(what), told[what]);
        }
        check.due("the other one: restore(0)", other.restore(0), BidMosaic.STATE);
    }

    private static void mode() {
        BidMosaic x = new BidMosaic();
        check.due("mode(1)", x.mode(1), 0);
        check.due("mode(1) again", x.mode(1), 1);
        for (int wrong : new int[] {-1, 2, Integer.MIN_VALUE, Integer.MAX_VALUE}) {
            check.due("mode(" + wrong + ")", x.mode(wrong), BidMosaic.OUTSIDE);
            check.due("told(0) behind it", x.told(0), 1);
        }
        check.due("mode(0)", x.mode(0), 1);
        check.due("told(0)", x.told(0), 0);
    }

    private static void modeAndTheAuction() {
        BidMosaic x = oneOfEach();
        x.auction();
        x.mode(2);
        check.due("VALID behind a mode that is refused", x.told(5), 1);
        x.mode(0);
        check.due("VALID behind the same mode", x.told(5), 1);
        x.mode(1);
        check.due("VALID behind another mode", x.told(5), 0);
        x.mode(0);
        check.due("VALID behind the first mode again", x.told(5), 0);
    }

    private static void shrink() {
        BidMosaic x = oneOfEach();
        x.auction();
        check.due("shrink(2)", x.shrink(2), 4);
        check.due("shrink(9)", x.shrink(9), 2);
        for (int wrong : new int[] {1, 10, 0, -4, Integer.MIN_VALUE, Integer.MAX_VALUE}) {
            check.due("shrink(" + wrong + ")", x.shrink(wrong), BidMosaic.OUTSIDE);
            check.due("told(1) behind it", x.told(1), 9);
        }
        check.due("VALID behind shrink", x.told(5), 1);
        check.due("DONE behind shrink", x.told(6), 1);
    }

    private static void stock() {
        BidMosaic x = new BidMosaic();
        check.due("stock(0, 1)", x.stock(0, 1), 1);
        check.due("stock(9999, 4)", x.stock(9999, 4), 4);
        check.due("stock(0, 2)", x.stock(0, 2), 3);
        check.due("stock(0, 1)", x.stock(0, 1), 4);
        check.due("KINDS", x.told(2), 2);
        check.due("SLOTS", x.told(4), 8);
        for (int wrong : NO_DOTS) {
            check.due("stock(" + wrong + ", 1)", x.stock(wrong, 1), BidMosaic.OUTSIDE);
        }
        for (int wrong : new int[] {0, 5, -1, Integer.MIN_VALUE, Integer.MAX_VALUE}) {
            check.due("stock(5, " + wrong + ")", x.stock(5, wrong), BidMosaic.OUTSIDE);
            check.due("stock(0, " + wrong + ")", x.stock(0, wrong), BidMosaic.OUTSIDE);
        }
        check.due("KINDS behind refusals", x.told(2), 2);
        check.due("SLOTS behind refusals", x.told(4), 8);
    }

    private static void stockIsFull() {
        BidMosaic x = new BidMosaic();
        for (int dots = 0; dots < 8; dots++) {
            check.due("stock of the KIND " + dots, x.stock(dots, 1), 1);
        }
        check.due("a ninth KIND", x.stock(8, 1), BidMosaic.FULL);
        check.due("OUTSIDE ahead of FULL", x.stock(8, 5), BidMosaic.OUTSIDE);
        check.due("more than 4", x.stock(0, 4), BidMosaic.FULL);
        check.due("4 of one", x.stock(0, 3), 4);
        check.due("one more than 4", x.stock(0, 1), BidMosaic.FULL);
        check.due("4 of another", x.stock(1, 3), 4);
        check.due("more than 16", x.stock(2, 3), BidMosaic.FULL);
        check.due("16", x.stock(2, 2), 3);
        check.due("one more than 16", x.stock(2, 1), BidMosaic.FULL);
        check.due("KINDS", x.told(2), 8);
        check.due("SLOTS", x.told(4), 16);
        x.drop(7);
        check.due("an eighth KIND in the place of another", x.stock(8, 1), 1);
        check.due("a new KIND above 16", fourFours().stock(5, 1), BidMosaic.FULL);
    }

    private static void stockAndTheAuction() {
        BidMosaic x = fourFours();
        x.auction();
        check.due("FULL", x.stock(0, 1), BidMosaic.FULL);
        check.due("OUTSIDE", x.stock(0, 0), BidMosaic.OUTSIDE);
        check.due("VALID behind refusals", x.told(5), 1);
        BidMosaic y = oneOfEach();
        y.auction();
        y.stock(0, 1);
        check.due("VALID behind more of a KIND", y.told(5), 0);
        y.auction();
        y.stock(77, 1);
        check.due("VALID behind a new KIND", y.told(5), 0);
    }

    private static void drop() {
        BidMosaic x = new BidMosaic();
        x.stock(10, 2);
        x.stock(20, 3);
        x.stock(30, 4);
        for (int wrong : NO_DOTS) {
            check.due("drop(" + wrong + ")", x.drop(wrong), BidMosaic.OUTSIDE);
        }
        x.auction();
        check.due("drop(40)", x.drop(40), BidMosaic.NO);
        check.due("VALID behind refusals", x.told(5), 1);
        check.due("drop(20)", x.drop(20), 2);
        check.due("VALID behind drop", x.told(5), 0);
        check.due("drop(20) again", x.drop(20), BidMosaic.NO);
        check.due("kind(0, 0)", x.kind(0, 0), 10);
        check.due("kind(0, 1)", x.kind(0, 1), 2);
        check.due("kind(1, 0)", x.kind(1, 0), 30);
        check.due("kind(1, 1)", x.kind(1, 1), 4);
        check.due("kind(2, 0)", x.kind(2, 0), BidMosaic.UNKNOWN);
        check.due("SLOTS", x.told(4), 6);
        check.due("stock(20, 1)", x.stock(20, 1), 1);
        check.due("one that comes again is the last", x.find(20), 2);
        check.due("drop(10)", x.drop(10), 2);
        check.due("drop(30)", x.drop(30), 1);
        check.due("drop(20)", x.drop(20), 0);
        check.due("SLOTS", x.told(4), 0);
        dropOfEight();
    }

    private static void dropOfEight() {
        BidMosaic x = new BidMosaic();
        for (int dots = 0; dots < 8; dots++) {
            x.stock(dots, 1 + dots % 2);
        }
        check.due("drop(0) of eight", x.drop(0), 7);
        for (int kind = 0; kind < 7; kind++) {
            check.due("DOTS of " + kind, x.kind(kind, 0), kind + 1);
            check.due("STOCK of " + kind, x.kind(kind, 1), 1 + (kind + 1) % 2);
        }
        check.due("drop(7), the last one", x.drop(7), 6);
        check.due("kind(6, 0)", x.kind(6, 0), BidMosaic.UNKNOWN);
    }

    private static void kind() {
        BidMosaic x = new BidMosaic();
        x.stock(1111, 2);
        x.stock(5555, 3);
        x.stock(9999, 1);
        int[][] want = {{1111, 2, 0, 0}, {5555, 3, 2, 0}, {9999, 1, 5, 0}};
        for (int kind = 0; kind < 3; kind++) {
            for (int what = 0; what < 4; what++) {
                check.due("kind(" + kind + ", " + what + ")", x.kind(kind, what), want[kind][what]);
            }
            check.due("kind(" + kind + ", 4)", x.kind(kind, 4), BidMosaic.OUTSIDE);
            check.due("kind(" + kind + ", -1)", x.kind(kind, -1), BidMosaic.OUTSIDE);
        }
        for (int wrong : new int[] {-1, 3, 8, Integer.MIN_VALUE, Integer.MAX_VALUE}) {
            check.due("kind(" + wrong + ", 0)", x.kind(wrong, 0), BidMosaic.UNKNOWN);
            check.due("UNKNOWN ahead of OUTSIDE", x.kind(wrong, 9), BidMosaic.UNKNOWN);
        }
        x.cell(1111);
        x.cell(5555);
        x.cell(5556);
        check.due("no AUCTION: kind(1, 3)", x.kind(1, 3), 0);
        x.auction();
        check.due("kind(0, 3)", x.kind(0, 3), 1);
        check.due("kind(1, 3)", x.kind(1, 3), 2);
        check.due("kind(2, 3), idle ones don't count", x.kind(2, 3), 0);
        x.change(0, 1112);
        check.due("not DONE: kind(1, 3)", x.kind(1, 3), 0);
        x.repair();
        check.due("repaired: kind(1, 3)", x.kind(1, 3), 2);
        x.mode(1);
        check.due("not VALID: kind(1, 3)", x.kind(1, 3), 0);
    }

    private static void find() {
        BidMosaic x = new BidMosaic();
        check.due("find(0) of none", x.find(0), BidMosaic.NONE);
        x.stock(9999, 1);
        x.stock(0, 1);
        check.due("find(9999)", x.find(9999), 0);
        check.due("find(0)", x.find(0), 1);
        check.due("find(1)", x.find(1), BidMosaic.NONE);
        for (int wrong : NO_DOTS) {
            check.due("find(" + wrong + ")", x.find(wrong), BidMosaic.OUTSIDE);
        }
    }

    private static void cell() {
        BidMosaic x = oneOfEach();
        x.auction();
        for (int wrong : NO_DOTS) {
            check.due("cell(" + wrong + ")", x.cell(wrong), BidMosaic.OUTSIDE);
        }
        check.due("VALID behind refusals", x.told(5), 1);
        check.due("cell(9999)", x.cell(9999), 2);
        check.due("VALID behind cell", x.told(5), 0);
        for (int count = 3; count <= 12; count++) {
            check.due("CELL " + count, x.cell(count), count);
        }
        check.due("a thirteenth", x.cell(0), BidMosaic.FULL);
        check.due("OUTSIDE ahead of FULL", x.cell(10000), BidMosaic.OUTSIDE);
        check.due("CELLS", x.told(3), 12);
        check.due("told(111)", x.told(111), 12);
        check.due("told(101)", x.told(101), 9999);
        BidMosaic y = twelveCells();
        y.auction();
        check.due("FULL", y.cell(0), BidMosaic.FULL);
        check.due("VALID behind FULL", y.told(5), 1);
    }

    private static void change() {
        BidMosaic x = new BidMosaic();
        x.cell(1);
        x.cell(2);
        check.due("change(1, 9999)", x.change(1, 9999), 2);
        check.due("change(1, 0)", x.change(1, 0), 9999);
        check.due("told(100)", x.told(100), 1);
        check.due("told(101)", x.told(101), 0);
        for (int wrong : NO_DOTS) {
            check.due("change(0, " + wrong + ")", x.change(0, wrong), BidMosaic.OUTSIDE);
        }
        for (int wrong : new int[] {-1, 2, 12, Integer.MIN_VALUE, Integer.MAX_VALUE}) {
            check.due("change(" + wrong + ", 0)", x.change(wrong, 0), BidMosaic.UNKNOWN);
            check.due("UNKNOWN ahead of OUTSIDE", x.change(wrong, -1), BidMosaic.UNKNOWN);
        }
        check.due("told(100)", x.told(100), 1);
        check.due("a change makes no AUCTION", x.told(5), 0);
    }

    private static void changeAndTheAuction() {
        BidMosaic x = oneOfEach();
        x.auction();
        x.change(0, 10000);
        x.change(1, 5);
        check.due("DONE behind refusals", x.told(6), 1);
        x.change(0, 3);
        check.due("DONE behind the same DOTS", x.told(6), 1);
        x.change(0, 4);
        check.due("VALID behind other DOTS", x.told(5), 1);
        check.due("DONE behind other DOTS", x.told(6), 0);
        x.change(0, 3);
        check.due("DONE behind the first DOTS again", x.told(6), 0);
        x.repair();
        check.due("DONE behind repair", x.told(6), 1);
    }

    private static void remove() {
        BidMosaic x = twelveCells();
        for (int wrong : new int[] {-1, 12, Integer.MIN_VALUE, Integer.MAX_VALUE}) {
            check.due("remove(" + wrong + ")", x.remove(wrong), BidMosaic.UNKNOWN);
        }
        x.auction();
        x.remove(12);
        check.due("VALID behind a refusal", x.told(5), 1);
        check.due("remove(3)", x.remove(3), 11);
        check.due("VALID behind remove", x.told(5), 0);
        for (int cell = 0; cell < 11; cell++) {
            check.due("CELL " + cell, x.told(100 + cell), cell < 3 ? cell : cell + 1);
        }
        check.due("told(111)", x.told(111), BidMosaic.OUTSIDE);
        check.due("remove(10), the last one", x.remove(10), 10);
        check.due("remove(0)", x.remove(0), 9);
        check.due("told(100)", x.told(100), 1);
        check.due("told(108)", x.told(108), 10);
        check.due("remove(9)", x.remove(9), BidMosaic.UNKNOWN);
        BidMosaic y = oneOfEach();
        y.auction();
        check.due("remove(0), the only one", y.remove(0), 0);
        y.cell(3);
        check.due("VALID when it came again", y.told(5), 0);
    }

    private static void difference() {
        BidMosaic x = new BidMosaic();
        x.stock(1234, 1);
        x.stock(9999, 1);
        x.cell(4321);
        x.cell(0);
        check.due("3 + 1 + 1 + 3", x.difference(0, 0), 8);
        check.due("5 + 6 + 7 + 8", x.difference(0, 1), 26);
        check.due("1 + 2 + 3 + 4", x.difference(1, 0), 10);
        check.due("9 four times", x.difference(1, 1), 36);
        x.mode(1);
        check.due("9 + 1 + 1 + 9", x.difference(0, 0), 20);
        check.due("25 + 36 + 49 + 64", x.difference(0, 1), 174);
        check.due("1 + 4 + 9 + 16", x.difference(1, 0), 30);
        check.due("81 four times", x.difference(1, 1), 324);
        for (int wrong : new int[] {-1, 2, Integer.MIN_VALUE, Integer.MAX_VALUE}) {
            check.due("difference(" + wrong + ", 0)", x.difference(wrong, 0), BidMosaic.UNKNOWN);
            check.due("difference(0, " + wrong + ")", x.difference(0, wrong), BidMosaic.UNKNOWN);
        }
        for (int place = 1; place <= 1000; place *= 10) {
            x.change(0, 7 * place);
            x.drop(3 * place);
            check.due("change", x.stock(3 * place, 1), 1);
            check.due("one dot at " + place, x.difference(0, x.find(3 * place)), 16);
        }
    }

    private static BidMosaic oneOfEach() {
        BidMosaic x = new BidMosaic();
        x.stock(0, 1);
        x.cell(3);
        return x;
    }

    private static BidMosaic fourFours() {
        BidMosaic x = new BidMosaic();
        for (int dots = 0; dots < 4; dots++) {
            x.stock(dots, 4);
        }
        return x;
    }

    private static BidMosaic twelveCells() {
        BidMosaic x = fourFours();
        for (int dots = 0; dots < 12; dots++) {
            x.cell(dots);
        }
        return x;
    }
}
