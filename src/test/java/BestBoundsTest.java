/** PLAN, EVEN, ODDS of the document's heading 3 and promises 12 to 14, sentence by sentence, on both sides of each boundary. */
public final class BestBoundsTest {
    private static final int BAD = RopeTrays.BAD, NONE = RopeTrays.NONE;
    /** With ROOM 1 each thing needs a way for itself, the last one the shortest: 3 times 6, and 2 or 3. */
    private static final String TWENTY = "f7;r1;t0 6 1;t0 6 1;t0 6 1;t0 2 1;";
    private static final String TWENTY_ONE = "f7;r1;t0 6 1;t0 6 1;t0 6 1;t0 3 1;";

    public static void main(String[] args) {
        nothingIsChanged();
        fewestPulls();
        asOftenAsWanted();
        justThoseOfTheSet();
        othersStay();
        way();
        plan();
        fewestLeft();
        leastApart();
        whereItWouldBe();
        whereverTheTraysAre();
        even();
        odds();
        leastTerms();
        Check.end();
    }

    private static Run plan(Run run, int set, int many, int way) {
        return run.due("plan(" + set + ", 0)", many).due("plan(" + set + ", 1)", way);
    }

    private static Run even(Run run, int floor, int by, int... places) {
        run.due("even(" + floor + ", -1)", by);
        for (int t = 0; t < places.length; t++) {
            run.due("even(" + floor + ", " + t + ")", places[t]);
        }
        return run;
    }

    private static Run odds(Run run, int x, int n, int upper, int lower) {
        String call = "odds(" + x + ", " + n + ", ";
        return run.due(call + "0)", upper).due(call + "1)", lower);
    }

    private static void nothingIsChanged() {
        Document.says("3 (As things are NOW; nothing is changed.)");
        Run run = Run.told("f3;t0 2 3;t2 0 4;t1 0 2;");
        plan(run, 1, 2, 0);
        even(run, 1, 2, NONE, NONE, 1);
        odds(run, 5, 1, 1, 8);
        run.does("puts(0, 0)", "puts(1, 1)", "pulls(0)", "takes(1)", "keep(0)", "sees(3, 1)", "rate(0, 0)").types("f");
        plan(run, 1, 1, 0);
        plan(run, 2, 1, 0);
        plan(run, 7, 1, 0);
        even(run, 1, 1, NONE, 2, 1);
        odds(run, 5, 1, 1, 1);
        odds(run, 5, 0, 1, 8);
        run.does("undo()");
        plan(run, 2, 1, 0);
        even(run, 1, 1, NONE, NONE, 1);
    }

    private static void fewestPulls() {
        Document.says("PLAN for a set of THINGS (bits): the fewest PULLS (PULL 999 does not matter),");
        plan(Run.told("t0 1 1;"), 1, 1, 0);
        plan(Run.told("t0 4 1;"), 1, 4, 0);
        plan(Run.told("t4 3 1;"), 1, 1, 0);
        plan(Run.told("t4 0 1;"), 1, 4, 0);
        plan(Run.told("t1 0 1;"), 1, 2, 0);
        plan(Run.told("t3 4 1;"), 1, 2, 0);
        plan(Run.told("f7;t0 6 1;"), 1, 6, 0);
        plan(Run.told("f7;t6 0 1;"), 1, 6, 0);
        plan(plan(plan(Run.told("t0 1 1;t0 4 1;t0 2 1;"), 1, 1, 0), 2, 4, 0), 6, 4, 0);
        plan(Run.told(TWENTY), 15, 20, 0);
        plan(Run.told(TWENTY_ONE), 15, 21, 0);
        RopeTrays x = Check.told("t1 3 1;");
        for (int i = 1; i <= 999; i++) {
            x.pulls(i % 2 == 1 ? 0 : 1);
        }
        Check.due("PULLS", x.now(0), 999);
        Check.due("PLAN behind PULL 999", x.plan(1, 0), 2);
        Check.due("WAY behind PULL 999", x.plan(1, 1), 0);
    }

    private static void asOftenAsWanted() {
        Document.says("with PUTTING and TAKING off as often as wanted, ahead, between, behind, by which each of the set is HOME;");
        Run between = Run.told("f3;r1;t0 1 1;t1 2 1;");
        plan(between, 3, 2, 0);
        Run behind = Run.told("t0 1 1;").does("puts(0, 0)");
        plan(behind, 1, 1, 0);
        plan(behind.does("pulls(0)"), 1, 0, NONE);
        plan(behind.does("pulls(0)"), 1, 1, 1);
        Run home = Run.told("t0 1 1;t0 2 1;").does("puts(0, 0)", "pulls(0)", "takes(0)");
        plan(home, 1, 0, NONE);
        plan(home, 2, 3, 1);
        plan(home, 3, 3, 1);
        Run each = Run.told("s1;t0 1 1;t0 1 9;");
        plan(each, 0, 0, NONE);
        plan(each, 1, 1, 0);
        plan(each, 2, NONE, NONE);
        plan(each, 3, NONE, NONE);
        // Thing 0 rides past its floor TO up to the top, so that thing 1 can go against it from below.
        Run past = Run.told("s5;t0 1 5;t0 1 6;");
        plan(past, 1, 1, 0);
        plan(past, 2, NONE, NONE);
        plan(past, 3, 7, 0);
        // Each tray goes more than once: two at a time, and all of them from one floor.
        plan(Run.told("f3;t0 2 1;t0 2 1;t0 2 1;"), 7, 4, 0);
        plan(Run.told("f3;r3;t0 2 1;t0 2 1;t0 2 1;"), 7, 2, 0);
        plan(Run.told("f3;r1;t0 2 1;t0 2 1;t0 2 1;t2 0 1;"), 15, 6, 0);
    }

    private static void justThoseOfTheSet() {
        Document.says("just those of the set are PUT or TAKEN off, and TAKEN off just where they are HOME;");
        Run against = Run.told("f3;s0;t0 2 4;t2 0 4;");
        plan(against, 1, NONE, NONE);
        plan(against, 2, NONE, NONE);
        plan(against, 3, 2, 0);
        Run middle = Run.told("f3;t1 2 1;t1 2 1;").does("pulls(0)");
        plan(middle, 3, 1, 0);
        plan(middle.does("puts(0, 0)"), 3, 1, 0);
        plan(middle.does("puts(1, 1)"), 3, 3, 0);
        plan(middle, 1, 1, 0);
        plan(middle, 2, 1, 1);
        // Thing 0 is on its floor TO, but has the ROOM of tray 0 as long as it isn't of the set.
        Run stays = Run.told("f3;r1;t0 1 1;t1 2 1;").does("puts(0, 0)", "pulls(0)");
        plan(stays, 2, 1, 1);
        plan(stays, 3, 1, 0);
    }

    private static void othersStay() {
        Document.says("the others stay as they are (ON a TRAY they weigh, and have their ROOM); NONE.");
        for (int strong = 3; strong <= 6; strong++) {
            Run run = Run.told("f3;s" + strong + ";t0 2 5;t0 2 1;");
            plan(run, 1, strong < 5 ? NONE : 2, strong < 5 ? NONE : 0);
            // Thing 1 weighs on tray 0: beside thing 0 it is 6, against it on tray 1 it is 4.
            run.does("puts(1, 0)");
            plan(run, 1, strong < 4 ? NONE : strong < 6 ? 4 : 2, strong < 4 ? NONE : 0);
        }
        for (int room = 1; room <= 2; room++) {
            Run run = Run.told("f3;r" + room + ";t0 2 1;t0 2 1;");
            plan(run, 1, 2, 0);
            plan(run.does("puts(1, 0)"), 1, room == 1 ? 4 : 2, 0);
        }
        Run full = Run.told("f3;r1;t0 2 1;t0 2 1;t2 0 1;").does("puts(1, 0)", "puts(2, 1)");
        plan(full, 1, NONE, NONE);
        plan(full, 0, 0, NONE);
        plan(full, 6, 2, 0);
        plan(full, 7, 4, 0);
        Run helps = Run.told("f3;s0;t0 2 4;t2 0 4;");
        plan(helps, 1, NONE, NONE);
        plan(helps.does("puts(1, 1)"), 1, 2, 0);
        Run stuck = Run.told("f3;s4;t0 2 1;t0 2 5;").does("puts(1, 0)");
        plan(stuck, 1, NONE, NONE);
        plan(stuck, 0, 0, NONE);
    }

    private static void way() {
        Document.says("WAY: which way the first of these PULLS goes (0, if it can be either; NONE: none is needed, there is no PLAN).");
        plan(Run.told("f3;t1 2 1;").does("pulls(0)"), 1, 1, 0);
        plan(Run.told("f3;t1 2 1;").does("pulls(0)", "puts(0, 0)"), 1, 1, 0);
        plan(Run.told("f3;t1 2 1;").does("pulls(0)", "puts(0, 1)"), 1, 1, 1);
        plan(Run.told("f3;t1 0 1;").does("pulls(0)", "puts(0, 0)"), 1, 1, 1);
        plan(Run.told("f3;t1 0 1;").does("pulls(0)", "puts(0, 1)"), 1, 1, 0);
        plan(Run.told("t0 4 1;").does("pulls(0)"), 1, 5, 1);
        plan(Run.told("t0 4 1;").does(2, "pulls(0)"), 1, 6, 0);
        plan(Run.told("t0 4 1;").does(3, "pulls(0)"), 1, 5, 0);
        plan(Run.told("t0 4 1;").does(4, "pulls(0)"), 1, 4, 1);
        Run none = Run.told("s4;t0 1 4;t0 1 5;").does("puts(0, 0)", "pulls(0)");
        plan(none, 0, 0, NONE);
        plan(none, 1, 0, NONE);
        plan(none.does("takes(0)"), 1, 0, NONE);
        plan(none, 2, NONE, NONE);
    }

    private static void plan() {
        Document.says("PLAN: how many (what = 0), WAY (1); NONE. BAD.");
        for (int things = 0; things <= 4; things++) {
            Run run = Run.told("t0 1 1;".repeat(things));
            run.within("plan(N, 0)", 0, (1 << things) - 1).within("plan(N, 1)", 0, (1 << things) - 1);
            run.within("plan(0, N)", 0, 1).beyond("plan(" + ((1 << things) - 1) + ", N)", 0, 1);
        }
        Run.told("t0 1 1;").due("plan(2, 2)", BAD).due("plan(-1, -1)", BAD).due("plan(1, 0)", 1).due("plan(1, 1)", 0);
    }

    private static void fewestLeft() {
        Document.says("EVEN for a FLOOR: of all ways to have THINGS that LIE there ON TRAY 0, ON TRAY 1 (beside what is ON them; ROOM at most), or left there, such that fewest are left,");
        even(Run.told("r1;t0 1 9;t0 1 1;"), 0, 8, 1, 2);
        even(Run.told("r1;t0 1 9;t0 1 7;t0 1 4;"), 0, 2, 1, 2, 0);
        even(Run.told("r1;t0 1 9;t0 1 7;t0 1 4;t0 1 3;"), 0, 1, 0, 0, 1, 2);
        even(Run.told("r2;t0 1 9;t0 1 7;t0 1 4;t0 1 3;"), 0, 1, 1, 2, 2, 1);
        even(Run.told("r2;t0 1 9;t0 1 4;t0 1 3;t0 1 2;"), 0, 4, 1, 2, 2, 1);
        even(Run.told("r3;t0 1 9;t0 1 4;t0 1 3;t0 1 2;"), 0, 0, 1, 2, 2, 2);
        even(Run.told("r2;t0 1 9;t0 1 4;t0 1 3;t0 1 2;").does("puts(0, 0)"), 0, 4, NONE, 2, 2, 1);
        even(Run.told("r3;t0 1 9;t0 1 4;t0 1 3;t0 1 2;").does("puts(0, 0)"), 0, 0, NONE, 2, 2, 2);
        Run full = Run.told("r1;t0 1 3;t4 1 5;t2 1 7;").does("puts(0, 0)");
        even(full, 2, 4, NONE, NONE, 2);
        even(full.does("puts(1, 1)"), 2, 2, NONE, NONE, 0);
        // STRONG does not matter.
        even(Run.told("s0;r1;t0 1 9;t0 1 1;"), 0, 8, 1, 2);
    }

    private static void leastApart() {
        Document.says("that by which WEIGHTS ON both differ least, of several the first (THING by THING: TRAY 0, TRAY 1, left):");
        even(Run.told("t3 1 6;"), 3, 6, 1);
        even(Run.told("t3 1 6;t3 1 6;"), 3, 0, 1, 2);
        even(Run.told("t3 1 2;t3 1 3;t3 1 4;"), 3, 1, 1, 1, 2);
        even(Run.told("t3 1 1;t3 1 3;t3 1 5;"), 3, 1, 1, 1, 2);
        even(Run.told("t3 1 2;t3 1 2;t3 1 2;t3 1 2;"), 3, 0, 1, 1, 2, 2);
        even(Run.told("r1;t3 1 5;t3 1 5;t3 1 5;"), 3, 0, 1, 2, 0);
        even(Run.told("r1;t3 1 5;t3 1 9;t3 1 5;"), 3, 0, 1, 0, 2);
        even(Run.told("r1;t3 1 9;t3 1 5;t3 1 5;"), 3, 0, 0, 1, 2);
        even(Run.told("r1;t0 1 5;t0 1 5;t0 1 5;").does("puts(0, 0)"), 0, 0, NONE, 2, 0);
        even(Run.told("t0 1 5;t0 1 5;t0 1 5;").does("puts(2, 0)"), 0, 5, 1, 2, NONE);
    }

    private static void whereItWouldBe() {
        Document.says("by how much; where a THING would be (1, 2, or 0: left; NONE: it doesn't LIE there).");
        even(Run.told("r1;t0 1 5;t0 1 4;t0 1 1;t1 2 9;"), 0, 1, 1, 2, 0, NONE);
        Run run = Run.told("f3;t0 1 5;t0 1 4;t2 1 3;t0 2 2;").does("puts(0, 0)", "puts(2, 1)");
        even(run, 0, 0, NONE, 2, NONE, 1);
        run.does("pulls(0)", "takes(0)");
        even(run, 1, 3, NONE, NONE, NONE, NONE);
        even(run, 0, 1, NONE, 1, NONE, 2);
        run.does("pulls(1)", "puts(3, 0)", "pulls(0)", "takes(3)");
        even(run, 1, 1, NONE, NONE, NONE, 1);
        even(run, 0, 1, NONE, 1, NONE, NONE);
    }

    private static void whereverTheTraysAre() {
        Document.says("(Where TRAYS are does not matter.)");
        Run run = Run.told("f7;t0 1 9;t0 1 7;t3 1 4;t6 1 3;");
        for (int floor = 0; floor < 7; floor++) {
            even(run, 0, 2, 1, 2, NONE, NONE);
            even(run, 1, 0, NONE, NONE, NONE, NONE);
            even(run, 3, 4, NONE, NONE, 1, NONE);
            even(run, 6, 3, NONE, NONE, NONE, 1);
            if (floor < 6) {
                run.does("pulls(0)");
            }
        }
    }

    private static void even() {
        Document.says("EVEN: by how much (t = -1), where a THING would be; NONE. BAD.");
        for (int things = 0; things <= 4; things++) {
            Run run = Run.told("f7;" + "t0 1 1;".repeat(things)).within("even(N, -1)", 0, 6).within("even(0, N)", -1, things - 1);
            run.within("even(6, N)", -1, things - 1).beyond("even(N, " + (things - 1) + ")", 0, 6);
        }
        Run.told("f3;").within("even(N, -1)", 0, 2);
        Run.told("t0 1 1;").due("even(1, 0)", NONE).due("even(5, 0)", BAD).due("even(1, 1)", BAD).due("even(-1, -2)", BAD);
    }

    private static void odds() {
        Document.says("ODDS by x (0 .. 10), n (0 .. 20): each THING that is not HOME is called off by x of 10, for itself: that PLAN for all others that are not HOME is n PULLS at most: a fraction.");
        Run one = Run.told("t0 4 1;").within("odds(N, 0, 0)", 0, 10).within("odds(5, N, 1)", 0, 20);
        odds(one, 0, 3, 0, 1);
        odds(one, 0, 4, 1, 1);
        odds(one, 1, 3, 1, 10);
        odds(one, 9, 3, 9, 10);
        odds(one, 10, 3, 1, 1);
        odds(one, 10, 0, 1, 1);
        odds(one, 9, 4, 1, 1);
        odds(Run.told(TWENTY), 0, 20, 1, 1);
        odds(Run.told(TWENTY), 0, 19, 0, 1);
        odds(Run.told(TWENTY_ONE), 0, 20, 0, 1);
        odds(Run.told(TWENTY_ONE), 5, 20, 15, 16);
        odds(Run.told("f3;t0 2 1;t2 0 1;"), 3, 1, 9, 100);
        odds(Run.told("f3;t0 2 1;t2 0 1;"), 3, 2, 1, 1);
        odds(Run.told("s0;t0 4 1;"), 4, 20, 2, 5);
        odds(Run.anew(), 0, 0, 1, 1);
        odds(Run.anew(), 10, 20, 1, 1);
        Run home = Run.told("t0 1 1;t0 4 1;").does("puts(0, 0)", "pulls(0)");
        odds(home, 3, 0, 3, 10);
        odds(home.does("takes(0)"), 3, 0, 3, 10);
        odds(home, 3, 4, 3, 10);
        odds(home, 3, 5, 1, 1);
        // ON a tray, either of them, a thing is not HOME, not even on its floor TO.
        Run on0 = Run.told("f3;t0 2 1;").does("puts(0, 0)");
        odds(odds(on0, 3, 1, 3, 10), 3, 2, 1, 1);
        Run on1 = Run.told("f3;t2 0 1;").does("puts(0, 1)");
        odds(odds(on1, 3, 1, 3, 10), 3, 2, 1, 1);
        odds(odds(on1.does("pulls(0)", "pulls(0)"), 3, 0, 1, 1).does("pulls(1)"), 3, 0, 3, 10);
        Run all = Run.told("t0 1 1;").does("puts(0, 0)", "pulls(0)", "takes(0)");
        odds(all, 0, 0, 1, 1);
        odds(all, 7, 20, 1, 1);
        // One that is called off stays ON its tray: thing 1 can go against it, thing 0 against nothing.
        Run against = Run.told("s0;t0 4 1;t4 0 1;");
        odds(against, 3, 20, 29, 50);
        odds(against.does("puts(0, 0)"), 3, 20, 79, 100);
    }

    private static void leastTerms() {
        Document.says("ODDS: upper (what = 0), lower number (1), in least terms. BAD.");
        Run one = Run.told("t0 4 1;").within("odds(N, 3, 1)", 0, 10).within("odds(2, N, 0)", 0, 20).within("odds(2, 3, N)", 0, 1);
        int[] upper = {0, 1, 1, 3, 2, 1, 3, 7, 4, 9, 1};
        int[] lower = {1, 10, 5, 10, 5, 2, 5, 10, 5, 10, 1};
        for (int x = 0; x <= 10; x++) {
            odds(one, x, 3, upper[x], lower[x]);
        }
        Run four = Run.told(TWENTY_ONE);
        odds(four, 1, 0, 1, 10000);
        odds(four, 2, 0, 1, 625);
        odds(four, 3, 0, 81, 10000);
        odds(four, 5, 0, 1, 16);
        odds(four, 9, 20, 9999, 10000);
        odds(four, 10, 20, 1, 1);
        one.due("odds(11, 21, 2)", BAD).due("odds(-1, 0, 0)", BAD).due("odds(0, 21, 1)", BAD);
    }
}
