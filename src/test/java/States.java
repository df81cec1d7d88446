/** Runs that lead to the states in which a call can come: few of all, or as many of all as there can be. */
final class States {
    /** KINDS 1111 (SLOTS 0, 1) and 5555 (SLOT 2); CELLS 1112 and 5554; no AUCTION yet. */
    static final String FEW = "stock 1111 2; stock 5555 1; cell 1112; cell 5554";
    static final String FEW_DONE = FEW + "; auction";
    static final String FEW_CHANGED = FEW_DONE + "; change 0 9999";
    static final String FEW_REPAIRED = FEW_CHANGED + "; repair";
    /** There was an AUCTION, but it is not VALID any more. */
    static final String FEW_SPOILT = FEW_DONE + "; mode 1";
    /** IMAGE 0 is kept, IMAGE 1 is not. */
    static final String FEW_KEPT = FEW_DONE + "; shrink 7; image 0; change 1 1234; repair; change 0 4321";
    /** As FEW_SPOILT, but there are more CELLS than SLOTS, and nothing is as it is at first. */
    static final String TOO_FEW_SLOTS = "mode 1; shrink 9; stock 3 1; cell 1; auction; image 0; change 0 7; cell 2; cell 3";

    /** 8 KINDS of 2, from 0 on by 1111; 12 CELLS, from 0 on by 801. */
    static final String FULL = full();
    static final String FULL_DONE = FULL + "; auction";
    /** CELL 11 wants 0017 then. */
    static final String FULL_CHANGED = FULL_DONE + "; change 11 17";

    static final String[] ALL = {"", FEW, FEW_DONE, FEW_CHANGED, FEW_REPAIRED, FEW_SPOILT, FEW_KEPT, TOO_FEW_SLOTS, FULL,
        FULL_DONE, FULL_CHANGED};
    static final String[] WITHOUT_VALID = {"", FEW, FEW_SPOILT, TOO_FEW_SLOTS, FULL};
    static final String[] DONE = {FEW_DONE, FEW_REPAIRED, FULL_DONE};
    static final String[] NOT_DONE = {FEW_CHANGED, FEW_KEPT, FULL_CHANGED};

    private States() { }

    private static String full() {
        StringBuilder text = new StringBuilder("mode 0");
        for (int kind = 0; kind < 8; kind++) {
            text.append("; stock ").append(kind * 1111).append(" 2");
        }
        for (int cell = 0; cell < 12; cell++) {
            text.append("; cell ").append(cell * 801);
        }
        return text.toString();
    }

    /** The same call, so many times. */
    static String times(int n, String call) {
        return String.join("; ", java.util.Collections.nCopies(n, call));
    }
}
