import java.util.ArrayList;
import java.util.List;

/** All that can be seen of an object; it is used up by that, as undo(), back() and house() show what is hidden. */
final class Look {
    /** No look needs more calls: so many are left free of the 512 that an object has. */
    static final int MOST_CALLS = 270;

    private final RopeTrays x;
    private final List<String> seen = new ArrayList<>();

    private Look(RopeTrays x) {
        this.x = x;
    }

    static List<String> at(RopeTrays x) {
        Look look = new Look(x);
        look.open();
        look.undone();
        look.images();
        look.text();
        Check.holds("a look has few calls: " + look.seen.size(), look.seen.size() <= MOST_CALLS);
        return look.seen;
    }

    private long see(String call) {
        long answer = Calls.answer(x, call);
        seen.add(call + " = " + answer);
        return answer;
    }

    private void open() {
        for (int what = 0; what <= 5; what++) {
            see("count(" + what + ")");
        }
        for (int t = 0; t < x.count(3); t++) {
            for (int what = 0; what <= 2; what++) {
                see("thing(" + t + ", " + what + ")");
            }
        }
        places();
        see("now(3)");
        see("now(4)");
        int all = (1 << x.count(3)) - 1;
        see("plan(" + all + ", 0)");
        see("plan(" + all + ", 1)");
        see("odds(5, 3, 0)");
        for (int floor = 0; floor < x.count(0); floor++) {
            see("even(" + floor + ", -1)");
        }
        for (int what = 0; what <= 2; what++) {
            see("weights(" + what + ")");
        }
        see("next()");
        see("trace()");
    }

    private void places() {
        for (int what = 0; what <= 2; what++) {
            see("now(" + what + ")");
        }
        see("tray(0, 0)");
        see("tray(0, 1)");
        see("tray(1, 1)");
        for (int t = 0; t < x.count(3); t++) {
            see("thing(" + t + ", 4)");
        }
    }

    private void undone() {
        for (int i = 0; i <= 10 && see("undo()") >= 0; i++) {
            places();
        }
    }

    private void images() {
        for (int image = 0; image <= 1; image++) {
            if (see("back(" + image + ")") >= 0) {
                places();
            }
        }
    }

    private void text() {
        see("house()");
        for (int what = 0; what <= 5; what++) {
            see("count(" + what + ")");
        }
        places();
        see("clear()");
    }
}
