import java.util.ArrayList;
import java.util.HashMap;
import java.util.List;
import java.util.Map;

/**
 * A run of calls, written as a text ("stock 0 2; cell 9999; auction"). It is made anew on a new object for
 * each question: the document tells of 512 calls an object, so no object is asked more than these.
 */
final class Run {
    private static final int MOST_CALLS = 512;
    /** What comes ahead of a look at all answers: each brings another part of what is kept to light. */
    private static final String[] SEQUELS = {"", "repair", "auction", "restore 0", "restore 1"};

    private record Call(String name, int first, int second) { }

    private final Check check;
    private final String text;
    private final List<Call> calls;
    private final Map<String, List<Integer>> looks = new HashMap<>();

    Run(Check check, String text) {
        this.check = check;
        this.text = text;
        this.calls = parsed(text);
    }

    Run then(String more) {
        return new Run(check, text.isEmpty() ? more : text + "; " + more);
    }

    /** The call answers that, behind this run. */
    void gives(String call, int want) {
        check.due(text + " > " + call, then(call).lastAnswer(), want);
    }

    /** The call answers that, and nothing is otherwise than if it had not been made. */
    void leavesAll(String call, int want) {
        gives(call, want);
        check.holds(text + " > " + call + " changes nothing", isLikeWithout(call));
    }

    boolean isLikeWithout(String call) {
        Run more = then(call);
        for (String sequel : SEQUELS) {
            if (!more.look(sequel).equals(lookKept(sequel))) {
                return false;
            }
        }
        return true;
    }

    /** Both runs lead to the same, whatever is asked. */
    void isLike(Run other) {
        check.holds(text + " is like " + other.text, look("").equals(other.look(""))
            && look("repair").equals(other.look("repair")) && look("auction").equals(other.look("auction")));
    }

    void isUnlike(Run other) {
        check.holds(text + " is unlike " + other.text, !look("").equals(other.look("")));
    }

    BidMosaic play() {
        BidMosaic x = new BidMosaic();
        for (Call call : calls) {
            make(x, call);
        }
        return x;
    }

    int answer(String call) {
        return then(call).lastAnswer();
    }

    private int lastAnswer() {
        BidMosaic x = new BidMosaic();
        int answer = 0;
        for (Call call : calls) {
            answer = make(x, call);
        }
        return answer;
    }

    private List<Integer> lookKept(String sequel) {
        return looks.computeIfAbsent(sequel, this::look);
    }

    /** The answer of the sequel, and every answer that can be had behind it without a change. */
    private List<Integer> look(String sequel) {
        BidMosaic x = play();
        List<Integer> answers = new ArrayList<>();
        for (Call call : parsed(sequel)) {
            answers.add(make(x, call));
        }
        for (int what = 0; what < 9; what++) {
            answers.add(x.told(what));
        }
        answers.add(x.total());
        lookAtCells(x, answers);
        lookAtKinds(x, answers);
        for (int i = 0; i < 17; i++) {
            for (int what = 0; what < 3; what++) {
                answers.add(x.slot(i, what));
                answers.add(i < 12 ? x.phase(i, what) : 0);
            }
        }
        if (calls.size() + answers.size() > MOST_CALLS) {
            throw new IllegalStateException("too many calls: " + text);
        }
        return answers;
    }

    private static void lookAtCells(BidMosaic x, List<Integer> answers) {
        for (int cell = 0; cell < 13; cell++) {
            answers.add(x.told(100 + cell));
            answers.add(x.place(cell));
            answers.add(x.gain(cell, 0));
            answers.add(x.gain(cell, 1));
        }
    }

    private static void lookAtKinds(BidMosaic x, List<Integer> answers) {
        for (int kind = 0; kind < 9; kind++) {
            for (int what = 0; what < 4; what++) {
                answers.add(x.kind(kind, what));
            }
            for (int cell = 0; cell < 12; cell++) {
                answers.add(x.difference(cell, kind));
            }
        }
    }

    private static List<Call> parsed(String text) {
        List<Call> calls = new ArrayList<>();
        for (String one : text.isEmpty() ? new String[0] : text.split("; ")) {
            String[] parts = one.split(" ");
            calls.add(new Call(parts[0], parts.length > 1 ? Integer.parseInt(parts[1]) : 0,
                parts.length > 2 ? Integer.parseInt(parts[2]) : 0));
        }
        if (calls.size() > MOST_CALLS) {
            throw new IllegalStateException("too many calls: " + text);
        }
        return calls;
    }

    private static int make(BidMosaic x, Call call) {
        int first = call.first;
        int second = call.second;
        return switch (call.name) {
            case "mode" -> x.mode(first);
            case "shrink" -> x.shrink(first);
            case "stock" -> x.stock(first, second);
            case "drop" -> x.drop(first);
            case "kind" -> x.kind(first, second);
            case "find" -> x.find(first);
            case "cell" -> x.cell(first);
            case "change" -> x.change(first, second);
            case "remove" -> x.remove(first);
            case "difference" -> x.difference(first, second);
            case "auction" -> x.auction();
            case "repair" -> x.repair();
            case "phase" -> x.phase(first, second);
            case "place" -> x.place(first);
            case "slot" -> x.slot(first, second);
            case "gain" -> x.gain(first, second);
            case "total" -> x.total();
            case "image" -> x.image(first);
            case "restore" -> x.restore(first);
            case "told" -> x.told(first);
            default -> throw new IllegalStateException("no call " + call.name);
        };
    }

    /** Numbers that are not from low to high: next to it, a little beyond, as far as ints go, and cut-off likenesses. */
    static int[] beyond(int low, int high) {
        return new int[] {low - 1, high + 1, low - 2, high + 2, low - 100, high + 100, low - 65536, high + 65536,
            Integer.MIN_VALUE, Integer.MIN_VALUE + 1, Integer.MIN_VALUE + high, Integer.MAX_VALUE - 1, Integer.MAX_VALUE};
    }
}
