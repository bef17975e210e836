/** Promises 12 to 14: plan, even, odds. */
public final class BestTest {
    private static final int BAD = RopeTrays.BAD, NONE = RopeTrays.NONE;
    private static final int[] WILD = {-2, 100, Integer.MIN_VALUE, Integer.MAX_VALUE};

    public static void main(String[] args) {
        wrongNumbers();
        plans();
        plansBothWays();
        plansBesideOthers();
        plansWithCounterweights();
        planChangesNothing();
        evens();
        evensBesideOthers();
        odds();
        oddsOfOpenThings();
        Check.end();
    }

    private static void wrongNumbers() {
        RopeTrays x = Check.told("f3;t0 2 1;t2 0 1;");
        for (int wild : WILD) {
            Check.due("plan(" + wild + ", 0)", x.plan(wild, 0), BAD);
            Check.due("plan(1, " + wild + ")", x.plan(1, wild), BAD);
            Check.due("even(" + wild + ", 0)", x.even(wild, 0), BAD);
            Check.due("even(0, " + wild + ")", x.even(0, wild), BAD);
            Check.due("odds(" + wild + ", 1, 0)", x.odds(wild, 1, 0), BAD);
            Check.due("odds(1, " + wild + ", 0)", x.odds(1, wild, 0), BAD);
            Check.due("odds(1, 1, " + wild + ")", x.odds(1, 1, wild), BAD);
        }
        Check.due("plan(4, 0): told are two", x.plan(4, 0), BAD);
        Check.due("plan(-1, 0)", x.plan(-1, 0), BAD);
        Check.due("plan(1, -1)", x.plan(1, -1), BAD);
        Check.due("plan(1, 2)", x.plan(1, 2), BAD);
        Check.due("even(-1, -1)", x.even(-1, -1), BAD);
        Check.due("even(3, -1): told are three", x.even(3, -1), BAD);
        Check.due("even(0, 2): told are two", x.even(0, 2), BAD);
        Check.due("odds(-1, 0, 0)", x.odds(-1, 0, 0), BAD);
        Check.due("odds(11, 0, 0)", x.odds(11, 0, 0), BAD);
        Check.due("odds(0, -1, 0)", x.odds(0, -1, 0), BAD);
        Check.due("odds(0, 21, 0)", x.odds(0, 21, 0), BAD);
        Check.due("odds(0, 0, 2)", x.odds(0, 0, 2), BAD);
        Check.due("odds(0, 0, -1)", x.odds(0, 0, -1), BAD);
    }

    private static void plan(String when, RopeTrays x, int set, int many, int way) {
        Check.due(when + ": plan(" + set + ", 0)", x.plan(set, 0), many);
        Check.due(when + ": plan(" + set + ", 1)", x.plan(set, 1), way);
    }

    private static void plans() {
        RopeTrays x = Check.told("f3;t0 2 1;t2 0 1;t1 0 1;");
        plan("nothing", x, 0, 0, NONE);
        plan("up on tray 0", x, 1, 2, 0);
        plan("down on tray 1", x, 2, 2, 0);
        plan("both at once", x, 3, 2, 0);
        plan("from the middle", x, 4, 2, 0);
        plan("all", x, 7, 2, 0);
        x.puts(0, 0);
        x.pulls(0);
        x.pulls(0);
        plan("on the FLOOR TO", x, 1, 0, NONE);
        x.takes(0);
        plan("HOME", x, 1, 0, NONE);
        plan("beside one that is HOME", x, 3, 2, 1);
        plan("no things", new RopeTrays(), 0, 0, NONE);
        RopeTrays heavy = Check.told("s0;t0 4 1;");
        plan("too heavy", heavy, 1, NONE, NONE);
        heavy.puts(0, 0);
        plan("too heavy, ON a tray", heavy, 1, NONE, NONE);
        plan("nothing beside too heavy", heavy, 0, 0, NONE);
    }

    private static void plansBothWays() {
        RopeTrays x = Check.told("f3;t1 0 1;t1 2 1;");
        x.pulls(0);
        plan("either tray", x, 1, 1, 0);
        plan("both trays", x, 3, 1, 0);
        x.puts(0, 0);
        plan("tray 0 down", x, 1, 1, 1);
        plan("tray 1 up", x, 3, 1, 1);
        RopeTrays top = Check.told("f3;t2 0 1;");
        top.pulls(0);
        top.pulls(0);
        plan("from the top", top, 1, 2, 1);
    }

    private static void plansBesideOthers() {
        RopeTrays x = Check.told("f3;r1;t0 2 1;t0 2 1;");
        plan("one after the other", x, 3, 4, 0);
        x.puts(1, 0);
        plan("another one has the ROOM", x, 1, 4, 0);
        RopeTrays heavy = Check.told("f3;s5;t0 2 5;t0 2 1;");
        plan("each for itself", heavy, 1, 2, 0);
        heavy.puts(1, 0);
        plan("another one weighs on tray 0", heavy, 1, 4, 0);
        plan("both of the set", heavy, 3, 4, 0);
    }

    private static void plansWithCounterweights() {
        RopeTrays x = Check.told("f5;s1;t0 4 5;t4 2 5;");
        plan("alone", x, 1, NONE, NONE);
        plan("nothing to hold against", x, 2, NONE, NONE);
        plan("one rides on, and is stuck", x, 3, NONE, NONE);
        // Thing 1 is where it is to go half-way, but must ride on, lest thing 0 be too heavy.
        RopeTrays rides = Check.told("f5;s1;t0 4 5;t4 2 5;t4 2 5;");
        plan("one rides on, and comes back", rides, 7, 6, 0);
        RopeTrays three = Check.told("f3;s2;t0 2 9;t2 0 8;t1 0 1;");
        plan("heavy against heavy", three, 3, 2, 0);
        plan("and one beside", three, 7, 2, 0);
        RopeTrays far = Check.told("s4;t0 3 6;t4 1 5;t0 4 2;t2 0 9;");
        plan("there and back", far, 5, 10, 0);
        plan("together is shorter", far, 7, 4, 0);
    }

    private static void planChangesNothing() {
        RopeTrays x = Check.told("t0 4 3;t1 3 4;");
        x.puts(0, 0);
        x.plan(3, 1);
        x.even(1, 1);
        x.odds(5, 5, 0);
        Check.due("PULLS", x.now(0), 0);
        Check.due("where", x.thing(0, 3), 1);
        Check.due("LIES", x.thing(1, 4), 1);
        Check.due("UNDONE", x.now(4), 1);
    }

    private static void even(String when, RopeTrays x, int floor, int by, int... places) {
        Check.due(when + ": even(" + floor + ", -1)", x.even(floor, -1), by);
        for (int t = 0; t < places.length; t++) {
            Check.due(when + ": even(" + floor + ", " + t + ")", x.even(floor, t), places[t]);
        }
    }

    private static void evens() {
        RopeTrays x = Check.told("t0 1 5;t0 1 4;t0 1 3;t1 2 9;");
        even("three", x, 0, 2, 1, 2, 2, NONE);
        even("one", x, 1, 9, NONE, NONE, NONE, 1);
        even("none", x, 2, 0, NONE, NONE, NONE, NONE);
        even("ROOM 1", Check.told("r1;t0 1 5;t0 1 4;t0 1 3;"), 0, 1, 1, 2, 0);
        even("ROOM 1, the first is left", Check.told("r1;t0 1 9;t0 1 4;t0 1 3;"), 0, 1, 0, 1, 2);
        even("ROOM 3", Check.told("r3;t0 1 9;t0 1 4;t0 1 3;t0 1 2;"), 0, 0, 1, 2, 2, 2);
        even("alike", Check.told("t4 1 2;t4 1 2;t4 1 2;t4 1 2;"), 4, 0, 1, 1, 2, 2);
        even("no things", new RopeTrays(), 4, 0);
        even("STRONG does not matter", Check.told("s0;t3 1 7;t3 1 2;"), 3, 5, 1, 2);
        even("fewest left ahead of evenest", Check.told("r2;t0 1 4;t0 1 4;t0 1 9;"), 0, 1, 1, 1, 2);
    }

    private static void evensBesideOthers() {
        RopeTrays x = Check.told("t0 1 5;t0 1 4;t0 1 3;t1 2 9;");
        x.puts(0, 0);
        even("one is ON tray 0", x, 0, 2, NONE, 2, 2, NONE);
        even("another floor", x, 1, 4, NONE, NONE, NONE, 2);
        x.puts(1, 0);
        even("two are ON tray 0", x, 0, 6, NONE, NONE, 2, NONE);
        even("no one there", x, 3, 9, NONE, NONE, NONE, NONE);
        RopeTrays one = Check.told("r1;t0 1 5;t0 1 4;t0 1 3;");
        one.puts(1, 0);
        even("ROOM for one", one, 0, 1, 2, NONE, 0);
        RopeTrays home = Check.told("f3;t0 1 5;t0 1 4;t1 0 2;");
        home.puts(0, 0);
        home.pulls(0);
        home.takes(0);
        even("HOME does not LIE", home, 1, 2, NONE, NONE, 1);
        RopeTrays laid = Check.told("f3;t0 2 5;t0 1 4;t1 0 2;");
        laid.puts(0, 0);
        laid.pulls(0);
        laid.takes(0);
        even("where it was taken off", laid, 1, 3, 1, NONE, 2);
        even("where it lay", laid, 0, 4, NONE, 1, NONE);
    }

    private static void odds(String when, RopeTrays x, int tenths, int n, int upper, int lower) {
        String call = when + ": odds(" + tenths + ", " + n + ", ";
        Check.due(call + "0)", x.odds(tenths, n, 0), upper);
        Check.due(call + "1)", x.odds(tenths, n, 1), lower);
    }

    private static void odds() {
        RopeTrays x = Check.told("f3;t0 2 1;t2 0 1;");
        odds("enough for all", x, 5, 2, 1, 1);
        odds("just if both are called off", x, 5, 1, 1, 4);
        odds("just if both are called off", x, 3, 1, 9, 100);
        odds("none is called off", x, 0, 1, 0, 1);
        odds("none is called off", x, 0, 20, 1, 1);
        odds("all are called off", x, 10, 0, 1, 1);
        odds("no things", new RopeTrays(), 0, 0, 1, 1);
        odds("no things", new RopeTrays(), 10, 20, 1, 1);
        RopeTrays four = Check.told("f3;t0 2 1;t0 2 1;t0 2 1;t0 2 1;");
        odds("two at most", four, 1, 3, 1 + 4 * 9 + 6 * 81, 10000);
        odds("none", four, 1, 0, 1, 10000);
        odds("none", four, 2, 1, 1, 625);
    }

    private static void oddsOfOpenThings() {
        RopeTrays x = Check.told("f3;s5;t0 1 5;t0 2 1;t1 2 5;");
        x.puts(0, 0);
        x.pulls(0);
        x.takes(0);
        odds("HOME is not called off", x, 5, 0, 1, 4);
        odds("one pull is for thing 2 alone", x, 5, 1, 1, 2);
        RopeTrays none = Check.told("s0;t0 4 1;t4 0 1;");
        odds("alone there is no plan", none, 5, 20, 1, 2);
        none.puts(0, 0);
        odds("called off it stays ON the tray", none, 5, 20, 3, 4);
        odds("called off it stays ON the tray", none, 3, 20, 79, 100);
    }
}
