import java.util.Random;

/** Long runs of calls, chosen by fixed seeds, each answer held against Model's: all promises together. */
public final class RandomRunsTest {
    private static final int RUNS = 1000, CALLS = 512;
    private static final int[] WILD = {Integer.MIN_VALUE, -1000, -2, -1, 0, 1, 2, 3, 4, 5, 6, 7, 20, 21, 31, 32, 33, 40, 41, 64, 255, 256, Integer.MAX_VALUE};

    private final Random random;
    private final RopeTrays x = new RopeTrays();
    private final Model model = new Model();
    private final int seed;
    private int calls = 0;
    private int told = 0;

    private RandomRunsTest(int seed) {
        this.seed = seed;
        this.random = new Random(seed);
    }

    public static void main(String[] args) {
        for (int seed = 0; seed < RUNS && Check.wrongSoFar() < 20; seed++) {
            new RandomRunsTest(seed).run();
        }
        Check.end();
    }

    private void due(String call, long got, long want) {
        calls++;
        Check.due("seed " + seed + ", call " + calls + ": " + call, got, want);
    }

    private void run() {
        tell(random.nextInt(8) == 0 ? spoilt(text()) : text());
        while (calls < CALLS) {
            int choice = random.nextInt(100);
            if (choice < 2) {
                tell(random.nextInt(3) == 0 ? text() : spoilt(text()));
            } else if (choice < 50) {
                act();
            } else if (choice < 58) {
                best();
            } else if (choice < 70) {
                heavy();
            } else if (choice < 80) {
                kindsAndImages();
            } else {
                look();
            }
        }
    }

    private int pick(int below) {
        return random.nextInt(25) == 0 ? WILD[random.nextInt(WILD.length)] : random.nextInt(below);
    }

    private int thing() {
        return random.nextInt(25) == 0 ? pick(5) : random.nextInt(Math.max(1, model.count(3)));
    }

    private String text() {
        StringBuilder sb = new StringBuilder();
        int floors = 5;
        if (random.nextBoolean()) {
            floors = 3 + random.nextInt(5);
            sb.append("f").append(floors).append(";");
        }
        int things = random.nextInt(8) == 0 ? random.nextInt(5) : 2 + random.nextInt(3);
        int roomAt = random.nextInt(8), strongAt = random.nextInt(5);
        for (int i = 0; i < 8; i++) {
            if (i == roomAt) sb.append("r ").append(1 + random.nextInt(3)).append(";");
            if (i == strongAt) sb.append("s").append(random.nextInt(4) == 0 ? random.nextInt(31) : random.nextInt(11)).append(" ;");
            if (i < things) {
                int from = random.nextInt(floors);
                int to = (from + 1 + random.nextInt(floors - 1)) % floors;
                sb.append("t").append(from).append(" ").append(to).append(" ").append(1 + random.nextInt(9)).append(";");
            }
        }
        return sb.toString();
    }

    private String spoilt(String text) {
        StringBuilder sb = new StringBuilder(text);
        String letters = "ftrs; 0123456789  ;9x" + (char) 9 + (char) 233;
        int changes = 1 + random.nextInt(2);
        for (int i = 0; i < changes; i++) {
            char letter = letters.charAt(random.nextInt(letters.length()));
            int at = random.nextInt(sb.length() + 1);
            int how = random.nextInt(4);
            if (how == 0 || at == sb.length()) sb.insert(at, letter);
            else if (how == 1) sb.setCharAt(at, letter);
            else if (how == 2) sb.deleteCharAt(at);
            else sb.setLength(at);
        }
        return sb.toString();
    }

    private void tell(String text) {
        // Much text would leave few calls for what it tells.
        if (told > 0 && calls + text.length() + 60 > CALLS) {
            return;
        }
        told++;
        for (int i = 0; i < text.length(); i++) {
            int letter = random.nextInt(200) == 0 ? pick(256) : text.charAt(i);
            due("type(" + letter + ")", x.type(letter), model.type(letter));
        }
        due("house()", x.house(), model.house());
        if (random.nextBoolean()) {
            due("clear()", x.clear(), model.clear());
        }
    }

    private void act() {
        int choice = random.nextInt(20);
        if (choice < 7) {
            int t = thing(), tray = pick(2);
            due("puts(" + t + ", " + tray + ")", x.puts(t, tray), model.puts(t, tray));
        } else if (choice < 10) {
            int t = thing();
            due("takes(" + t + ")", x.takes(t), model.takes(t));
        } else if (choice < 18) {
            int way = pick(2);
            due("pulls(" + way + ")", x.pulls(way), model.pulls(way));
        } else {
            for (int i = random.nextInt(4); i >= 0; i--) {
                due("undo()", x.undo(), model.undo());
            }
        }
    }

    private void best() {
        int choice = random.nextInt(10);
        if (choice < 5) {
            int set = random.nextInt(10) == 0 ? pick(17) : random.nextInt(1 << model.count(3));
            int what = pick(2);
            due("plan(" + set + ", " + what + ")", x.plan(set, what), model.plan(set, what));
        } else if (choice < 9) {
            int floor = pick(model.count(0)), t = random.nextInt(3) == 0 ? -1 : thing();
            due("even(" + floor + ", " + t + ")", x.even(floor, t), model.even(floor, t));
        } else {
            int tenths = pick(11), n = random.nextBoolean() ? pick(21) : random.nextInt(8), what = pick(2);
            due("odds(" + tenths + ", " + n + ", " + what + ")", x.odds(tenths, n, what), model.odds(tenths, n, what));
        }
    }

    private void heavy() {
        int choice = random.nextInt(10);
        if (choice < 3) {
            int v = random.nextBoolean() ? pick(41) : random.nextInt(20), went = pick(2);
            due("sees(" + v + ", " + went + ")", x.sees(v, went), model.sees(v, went));
        } else if (choice < 4) {
            due("forget()", x.forget(), model.forget());
        } else if (choice < 8) {
            int what = pick(3);
            due("weights(" + what + ")", x.weights(what), model.weights(what));
        } else {
            due("next()", x.next(), model.next());
        }
    }

    private void kindsAndImages() {
        int choice = random.nextInt(10);
        if (choice < 5) {
            int kind = pick(6), t = thing();
            due("rate(" + kind + ", " + t + ")", x.rate(kind, t), model.rate(kind, t));
        } else if (choice < 7) {
            int image = pick(2);
            due("keep(" + image + ")", x.keep(image), model.keep(image));
        } else if (choice < 9) {
            int image = pick(2);
            due("back(" + image + ")", x.back(image), model.back(image));
        } else {
            due("trace()", x.trace(), model.trace());
        }
    }

    private void look() {
        int choice = random.nextInt(4);
        if (choice == 0) {
            int t = thing(), what = pick(5);
            due("thing(" + t + ", " + what + ")", x.thing(t, what), model.thing(t, what));
        } else if (choice == 1) {
            int tray = pick(2), what = pick(3);
            due("tray(" + tray + ", " + what + ")", x.tray(tray, what), model.tray(tray, what));
        } else if (choice == 2) {
            int what = pick(5);
            due("now(" + what + ")", x.now(what), model.now(what));
        } else {
            int what = pick(6);
            due("count(" + what + ")", x.count(what), model.count(what));
        }
    }
}
