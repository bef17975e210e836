import java.util.Arrays;
import java.util.Set;

/** Calls written as the document writes them, "puts(0, 1)", made on an object. */
final class Calls {
    private static final Set<String> ASKING =
        Set.of("thing", "tray", "now", "plan", "even", "odds", "weights", "next", "count", "trace");

    private Calls() {
    }

    private static String name(String call) {
        return call.substring(0, call.indexOf('('));
    }

    /** These change nothing, whatever they answer. */
    static boolean asksOnly(String call) {
        return ASKING.contains(name(call));
    }

    /** COOK and MAID may answer a number below 0 that is no refusal. */
    static boolean refuses(String call, long answer) {
        return name(call).equals("rate") ? answer == RopeTrays.NO : answer < 0;
    }

    private static int[] numbers(String call) {
        String inside = call.substring(call.indexOf('(') + 1, call.indexOf(')')).replace(" ", "");
        return inside.isEmpty() ? new int[0] : Arrays.stream(inside.split(",")).mapToInt(Integer::parseInt).toArray();
    }

    static long answer(RopeTrays x, String call) {
        int[] n = numbers(call);
        return switch (name(call)) {
            case "type" -> x.type(n[0]);
            case "clear" -> x.clear();
            case "house" -> x.house();
            case "thing" -> x.thing(n[0], n[1]);
            case "tray" -> x.tray(n[0], n[1]);
            case "now" -> x.now(n[0]);
            case "puts" -> x.puts(n[0], n[1]);
            case "takes" -> x.takes(n[0]);
            case "pulls" -> x.pulls(n[0]);
            case "undo" -> x.undo();
            case "plan" -> x.plan(n[0], n[1]);
            case "even" -> x.even(n[0], n[1]);
            case "odds" -> x.odds(n[0], n[1], n[2]);
            case "sees" -> x.sees(n[0], n[1]);
            case "forget" -> x.forget();
            case "weights" -> x.weights(n[0]);
            case "next" -> x.next();
            case "rate" -> x.rate(n[0], n[1]);
            case "keep" -> x.keep(n[0]);
            case "back" -> x.back(n[0]);
            case "count" -> x.count(n[0]);
            case "trace" -> x.trace();
            default -> throw new IllegalArgumentException(call);
        };
    }
}
