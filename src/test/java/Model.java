import java.math.BigInteger;
import java.util.ArrayDeque;
import java.util.ArrayList;
import java.util.Deque;
import java.util.HashMap;
import java.util.List;
import java.util.Map;
import java.util.regex.Matcher;
import java.util.regex.Pattern;

/** The document once more, written as differently as may be (strings, maps, recursion), to hold the class against. */
final class Model {
    private static final int BAD = -1, STATE = -2, FULL = -3, NONE = -9, NO = -1000000;

    private record Thing(int from, int to, int weight) {
    }

    /** Where each thing is: "L3" lies on floor 3, "A" on tray 0, "B" on tray 1, "H" home. */
    private record Now(int floor, List<String> where, int pulls) {
        Now with(int t, String place) {
            List<String> other = new ArrayList<>(where);
            other.set(t, place);
            return new Now(floor, List.copyOf(other), pulls);
        }
    }

    private final StringBuilder text = new StringBuilder();
    private int floors = 5, room = 2, strong = 9;
    private List<Thing> things = new ArrayList<>();
    private Now now = new Now(0, List.of(), 0);
    private final Deque<Now> before = new ArrayDeque<>();
    private final Now[] images = new Now[2];
    private final List<int[]> seen = new ArrayList<>();
    private long trace = 0;

    int type(int letter) {
        if (letter < 0 || letter > 255) return BAD;
        if (text.length() == 100) return FULL;
        text.append((char) letter);
        return text.length();
    }

    int clear() {
        int had = text.length();
        text.setLength(0);
        return had;
    }

    int house() {
        int newFloors = 5, newRoom = 2, newStrong = 9;
        List<Thing> newThings = new ArrayList<>();
        List<String> tokens = new ArrayList<>();
        List<Integer> starts = new ArrayList<>();
        Matcher m = Pattern.compile("[0-9]+|[^ ]", Pattern.DOTALL).matcher(text);
        while (m.find()) {
            tokens.add(m.group());
            starts.add(m.start());
        }
        int items = 0, i = 0;
        boolean roomTold = false, strongTold = false;
        while (i < tokens.size()) {
            String head = tokens.get(i);
            boolean may = head.equals("f") ? items == 0 : head.equals("t") ? newThings.size() < 4
                : head.equals("r") ? !roomTold : head.equals("s") && !strongTold;
            if (!may) return -10 - starts.get(i);
            i++;
            int[][] bounds = head.equals("f") ? new int[][] {{3, 7}} : head.equals("r") ? new int[][] {{1, 3}}
                : head.equals("s") ? new int[][] {{0, 30}} : new int[][] {{0, newFloors - 1}, {0, newFloors - 1}, {1, 9}};
            int[] read = new int[3];
            for (int k = 0; k < bounds.length; k++, i++) {
                if (i == tokens.size()) return -10 - text.length();
                String token = tokens.get(i);
                if (!token.matches("0|[1-9][0-9]?")) return -10 - starts.get(i);
                read[k] = Integer.parseInt(token);
                boolean same = head.equals("t") && k == 1 && read[1] == read[0];
                if (read[k] < bounds[k][0] || read[k] > bounds[k][1] || same) return -10 - starts.get(i);
            }
            if (i == tokens.size()) return -10 - text.length();
            if (!tokens.get(i).equals(";")) return -10 - starts.get(i);
            i++;
            items++;
            switch (head) {
                case "f" -> newFloors = read[0];
                case "r" -> { newRoom = read[0]; roomTold = true; }
                case "s" -> { newStrong = read[0]; strongTold = true; }
                default -> newThings.add(new Thing(read[0], read[1], read[2]));
            }
        }
        floors = newFloors;
        room = newRoom;
        strong = newStrong;
        things = newThings;
        List<String> where = new ArrayList<>();
        for (Thing t : things) where.add("L" + t.from);
        now = new Now(0, List.copyOf(where), 0);
        before.clear();
        images[0] = null;
        images[1] = null;
        seen.clear();
        text.setLength(0);
        return items;
    }

    private boolean noThing(int t) {
        return t < 0 || t >= things.size();
    }

    private int trayFloor(Now at, int tray) {
        return tray == 0 ? at.floor : floors - 1 - at.floor;
    }

    private static String on(int tray) {
        return tray == 0 ? "A" : "B";
    }

    private int weightOn(Now at, int tray) {
        int sum = 0;
        for (int t = 0; t < things.size(); t++) if (at.where.get(t).equals(on(tray))) sum += things.get(t).weight;
        return sum;
    }

    private int bits(Now at, String place) {
        int bits = 0;
        for (int t = 0; t < things.size(); t++) if (at.where.get(t).startsWith(place)) bits += 1 << t;
        return bits;
    }

    int thing(int t, int what) {
        if (noThing(t) || what < 0 || what > 4) return BAD;
        String place = now.where.get(t);
        Thing it = things.get(t);
        return switch (what) {
            case 0 -> it.from;
            case 1 -> it.to;
            case 2 -> it.weight;
            case 3 -> "LABH".indexOf(place.charAt(0));
            default -> place.startsWith("L") ? Integer.parseInt(place.substring(1)) : NONE;
        };
    }

    int tray(int tray, int what) {
        if (tray < 0 || tray > 1 || what < 0 || what > 2) return BAD;
        return what == 0 ? trayFloor(now, tray) : what == 1 ? bits(now, on(tray)) : weightOn(now, tray);
    }

    private Now pulled(Now at, int way) {
        int floor = at.floor + (way == 0 ? 1 : -1);
        if (floor < 0 || floor >= floors || Math.abs(weightOn(at, 0) - weightOn(at, 1)) > strong) return null;
        return new Now(floor, at.where, at.pulls + 1);
    }

    int now(int what) {
        if (what < 0 || what > 4) return BAD;
        return switch (what) {
            case 0 -> now.pulls;
            case 1 -> bits(now, "H");
            case 2 -> bits(now, "L");
            case 3 -> (pulled(now, 0) != null ? 1 : 0) + (pulled(now, 1) != null ? 2 : 0);
            default -> before.size();
        };
    }

    private void done(Now next) {
        before.addLast(now);
        if (before.size() > 10) before.removeFirst();
        now = next;
    }

    int puts(int t, int tray) {
        if (noThing(t) || tray < 0 || tray > 1) return BAD;
        if (!now.where.get(t).equals("L" + trayFloor(now, tray))) return STATE;
        if (Integer.bitCount(bits(now, on(tray))) >= room) return FULL;
        done(now.with(t, on(tray)));
        return weightOn(now, tray);
    }

    int takes(int t) {
        if (noThing(t)) return BAD;
        int tray = "AB".indexOf(now.where.get(t));
        if (tray < 0) return STATE;
        int floor = trayFloor(now, tray);
        boolean home = floor == things.get(t).to;
        done(now.with(t, home ? "H" : "L" + floor));
        return home ? 1 : 0;
    }

    int pulls(int way) {
        if (way < 0 || way > 1) return BAD;
        Now next = pulled(now, way);
        if (next == null || now.pulls == 999) return STATE;
        done(next);
        return now.floor;
    }

    int undo() {
        if (before.isEmpty()) return STATE;
        now = before.removeLast();
        return before.size();
    }

    /** Dijkstra by relaxing until nothing changes; pulls are counted from the state that it begins with. */
    private int fewest(Now begin, int set) {
        Map<String, Integer> best = new HashMap<>();
        Deque<Now> open = new ArrayDeque<>();
        Now zero = new Now(begin.floor, begin.where, 0);
        best.put(key(zero), 0);
        open.add(zero);
        int least = Integer.MAX_VALUE;
        while (!open.isEmpty()) {
            Now at = open.removeFirst();
            if (best.get(key(at)) < at.pulls) continue;
            if ((bits(at, "H") & set) == set) least = Math.min(least, at.pulls);
            for (Now next : steps(at, set)) {
                Integer known = best.get(key(next));
                if (known == null || known > next.pulls) {
                    best.put(key(next), next.pulls);
                    open.addLast(next);
                }
            }
        }
        return least == Integer.MAX_VALUE ? NONE : least;
    }

    private static String key(Now at) {
        return at.floor + ":" + String.join(",", at.where);
    }

    private List<Now> steps(Now at, int set) {
        List<Now> next = still(at, set);
        for (int way = 0; way < 2; way++) {
            Now other = pulled(at, way);
            if (other != null) next.add(other);
        }
        return next;
    }

    private List<Now> still(Now at, int set) {
        List<Now> next = new ArrayList<>();
        for (int t = 0; t < things.size(); t++) {
            if ((set >> t & 1) == 0) continue;
            for (int tray = 0; tray < 2; tray++) {
                int floor = trayFloor(at, tray);
                boolean hasRoom = Integer.bitCount(bits(at, on(tray))) < room;
                if (at.where.get(t).equals("L" + floor) && hasRoom) next.add(at.with(t, on(tray)));
                if (at.where.get(t).equals(on(tray)) && floor == things.get(t).to) next.add(at.with(t, "H"));
            }
        }
        return next;
    }

    /** Every state that is reached without a pull, pulled the way, then planned for itself. */
    private boolean canBegin(Now at, int set, int way, int rest) {
        Now other = pulled(at, way);
        if (other != null && fewest(other, set) == rest) return true;
        for (Now next : still(at, set)) if (canBegin(next, set, way, rest)) return true;
        return false;
    }

    int plan(int set, int what) {
        if (set < 0 || set >= Math.pow(2, things.size()) || what < 0 || what > 1) return BAD;
        int many = fewest(now, set);
        if (what == 0) return many;
        if (many == NONE || many == 0) return NONE;
        return canBegin(now, set, 0, many - 1) ? 0 : 1;
    }

    private int[] bestShare;

    private void share(Now at, int floor, int t) {
        if (t == things.size()) {
            int left = 0;
            for (String place : at.where) if (place.equals("L" + floor)) left++;
            int by = Math.abs(weightOn(at, 0) - weightOn(at, 1));
            boolean fits = Integer.bitCount(bits(at, "A")) <= room && Integer.bitCount(bits(at, "B")) <= room;
            if (fits && (bestShare == null || left < bestShare[0] || left == bestShare[0] && by < bestShare[1])) {
                bestShare = new int[] {left, by, bits(at, "A"), bits(at, "B")};
            }
        } else if (at.where.get(t).equals("L" + floor)) {
            share(at.with(t, "A"), floor, t + 1);
            share(at.with(t, "B"), floor, t + 1);
            share(at, floor, t + 1);
        } else {
            share(at, floor, t + 1);
        }
    }

    int even(int floor, int t) {
        if (floor < 0 || floor >= floors || t < -1 || t >= things.size()) return BAD;
        bestShare = null;
        share(now, floor, 0);
        if (t == -1) return bestShare[1];
        if (!now.where.get(t).equals("L" + floor)) return NONE;
        return (bestShare[2] >> t & 1) == 1 ? 1 : (bestShare[3] >> t & 1) == 1 ? 2 : 0;
    }

    /** Upper number over ten to the count of things told; those that are HOME count ten of ten. */
    private long chances(int x, int n, int t, int set) {
        if (t == things.size()) {
            int many = fewest(now, set);
            return many != NONE && many <= n ? 1 : 0;
        }
        if (now.where.get(t).equals("H")) return 10 * chances(x, n, t + 1, set);
        return x * chances(x, n, t + 1, set) + (10 - x) * chances(x, n, t + 1, set | 1 << t);
    }

    int odds(int x, int n, int what) {
        if (x < 0 || x > 10 || n < 0 || n > 20 || what < 0 || what > 1) return BAD;
        BigInteger upper = BigInteger.valueOf(chances(x, n, 0, 0));
        BigInteger lower = BigInteger.TEN.pow(things.size());
        return (what == 0 ? upper : lower).divide(upper.gcd(lower)).intValueExact();
    }

    int sees(int v, int went) {
        if (v < 0 || v > 40 || went < 0 || went > 1) return BAD;
        if (seen.size() == 6) return FULL;
        seen.add(new int[] {v, went});
        return seen.size();
    }

    int forget() {
        int had = seen.size();
        seen.clear();
        return had;
    }

    private List<Integer> canBe() {
        List<Integer> all = new ArrayList<>();
        for (int w = 1; w <= 9; w++) {
            boolean can = true;
            for (int[] one : seen) can &= (w - one[0] <= strong && one[0] - w <= strong ? 1 : 0) == one[1];
            if (can) all.add(w);
        }
        return all;
    }

    int weights(int what) {
        if (what < 0 || what > 2) return BAD;
        List<Integer> all = canBe();
        if (what == 0) return all.size();
        return all.isEmpty() ? NONE : all.get(what == 1 ? 0 : all.size() - 1);
    }

    int next() {
        List<Integer> all = canBe();
        if (all.size() < 2) return NONE;
        for (int part = 0; part <= 9; part++) {
            for (int v = 0; v <= 40; v++) {
                int go = 0, stay = 0;
                for (int w : all) {
                    if (w - v <= strong && v - w <= strong) go++;
                    else stay++;
                }
                if (go <= part && stay <= part) return v;
            }
        }
        return NONE;
    }

    int rate(int kind, int t) {
        if (kind < 0 || kind > 5 || noThing(t)) return NO;
        int weight = things.get(t).weight;
        int lie = Integer.bitCount(bits(now, "L"));
        trace += new int[] {1, 11, 101, 1011, 10101, 100001}[kind];
        return switch (kind) {
            case 0 -> weight;
            case 1 -> weight + now.floor;
            case 2 -> weight - lie;
            case 3 -> (weight + now.floor) * 2;
            case 4 -> weight - lie + t;
            default -> weight + now.pulls;
        };
    }

    int keep(int image) {
        if (image < 0 || image > 1) return BAD;
        images[image] = now;
        return now.pulls;
    }

    int back(int image) {
        if (image < 0 || image > 1) return BAD;
        if (images[image] == null) return STATE;
        now = images[image];
        before.clear();
        return now.pulls;
    }

    int count(int what) {
        int[] all = {floors, room, strong, things.size(), seen.size(), text.length()};
        return what < 0 || what >= all.length ? BAD : all[what];
    }

    long trace() {
        return trace;
    }
}
