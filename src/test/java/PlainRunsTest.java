/** Random runs of 512 calls, with fixed seeds: every answer is the one of PlainMosaic. */
final class PlainRunsTest {
    private static final int RUNS = 120;
    private static final int CALLS = 512;

    public static void main(String[] args) {
        Check check = new Check();
        int answersOfDone = 0;
        for (int seed = 1; seed <= RUNS && check.isClean(); seed++) {
            Caller caller = new Caller(seed);
            BidMosaic x = new BidMosaic();
            PlainMosaic plain = new PlainMosaic();
            for (int i = 0; i < CALLS && check.isClean(); i++) {
                caller.draw();
                int want = caller.on(plain);
                check.due("seed " + seed + ", call " + i + ": " + caller.text(), caller.on(x), want);
                answersOfDone += plain.told(6);
            }
        }
        check.holds("a good part of the calls come when an AUCTION is DONE", answersOfDone > RUNS * CALLS / 5);
        check.end();
    }
}
