import java.util.ArrayList;
import java.util.List;

/**
 * A run of calls on one object. Behind a call that is refused, or that asks only, nothing may have changed: two twins
 * of the object are made, one of them gets the call, and they must look alike.
 */
final class Run {
    private static final int MOST_CALLS = 512;

    private final RopeTrays x = new RopeTrays();
    private final List<String> changes = new ArrayList<>();
    private int calls = 0;
    private List<String> look = null;

    private Run() {
    }

    static Run anew() {
        return new Run();
    }

    static Run typed(String text) {
        return anew().types(text);
    }

    static Run told(String text) {
        return typed(text).does("house()");
    }

    Run types(String text) {
        for (int i = 0; i < text.length(); i++) {
            does("type(" + (int) text.charAt(i) + ")");
        }
        return this;
    }

    /** Calls that lead to where the test begins: none of them may be refused. */
    Run does(String... led) {
        for (String call : led) {
            long answer = ask(call);
            Check.holds(told() + call + " is not refused, but answered " + answer, !Calls.refuses(call, answer));
            changed(call);
        }
        return this;
    }

    Run does(int times, String... led) {
        for (int i = 0; i < times; i++) {
            does(led);
        }
        return this;
    }

    Run due(String call, long want) {
        Check.due(told() + call, ask(call), want);
        if (Calls.asksOnly(call) || Calls.refuses(call, want)) {
            nothingChangesBehind(call);
        } else {
            changed(call);
        }
        return this;
    }

    /** A number in the call, written N, may be low .. high; what is beyond is BAD. */
    Run within(String call, int low, int high) {
        for (int n = low; n <= high; n++) {
            String whole = call.replace("N", "" + n);
            long answer = ask(whole);
            Check.holds(told() + whole + " is not BAD", answer != RopeTrays.BAD && answer != RopeTrays.NO);
            if (Calls.asksOnly(whole) || Calls.refuses(whole, answer)) {
                nothingChangesBehind(whole);
            } else {
                changed(whole);
            }
        }
        return beyond(call, low, high);
    }

    Run beyond(String call, int low, int high) {
        int bad = call.startsWith("rate") ? RopeTrays.NO : RopeTrays.BAD;
        for (int n : new int[] {low - 1, high + 1, Integer.MIN_VALUE, Integer.MAX_VALUE}) {
            due(call.replace("N", "" + n), bad);
        }
        return this;
    }

    private long ask(String call) {
        calls++;
        Check.holds("an object has 512 calls at most", calls <= MOST_CALLS);
        return Calls.answer(x, call);
    }

    private void changed(String call) {
        changes.add(call);
        look = null;
    }

    private RopeTrays twin() {
        Check.holds("calls are left for a look", changes.size() + 1 + Look.MOST_CALLS <= MOST_CALLS);
        RopeTrays twin = new RopeTrays();
        for (String call : changes) {
            Calls.answer(twin, call);
        }
        return twin;
    }

    private void nothingChangesBehind(String call) {
        if (look == null) {
            look = Look.at(twin());
        }
        RopeTrays other = twin();
        Calls.answer(other, call);
        List<String> behind = Look.at(other);
        Check.holds(told() + call + " changes nothing: " + look + " is " + behind, look.equals(behind));
    }

    /** Letters that were typed are told as a text: a run of them says nothing to a reader. */
    private String told() {
        StringBuilder sb = new StringBuilder();
        for (String call : changes) {
            if (call.startsWith("type(")) {
                sb.append((char) Integer.parseInt(call.substring(5, call.length() - 1)));
            } else {
                sb.append(" ").append(call).append(" ");
            }
        }
        return sb.append(" -> ").toString();
    }
}
