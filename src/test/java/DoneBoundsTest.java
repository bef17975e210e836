/** The document's heading 2 and promises 5 to 11, sentence by sentence, on both sides of each boundary. */
public final class DoneBoundsTest {
    private static final int BAD = RopeTrays.BAD, STATE = RopeTrays.STATE, FULL = RopeTrays.FULL, NONE = RopeTrays.NONE;

    public static void main(String[] args) {
        places();
        put();
        takenOff();
        pulledUpAndDown();
        pulledByStrong();
        pulledAtMost();
        undone();
        thing();
        tray();
        now();
        puts();
        takes();
        pulls();
        undo();
        calls();
        Check.end();
    }

    private static void places() {
        Document.says("2 Each THING LIES (0) on a FLOOR (FROM at first), is ON TRAY 0 (1), ON TRAY 1 (2), or HOME (3).");
        Run run = Run.told("f3;t0 1 1;t2 1 1;t1 0 1;");
        run.due("thing(0, 3)", 0).due("thing(0, 4)", 0).due("thing(1, 4)", 2).due("thing(2, 4)", 1);
        run.does("puts(0, 0)").due("thing(0, 3)", 1).due("thing(0, 4)", NONE);
        run.does("puts(1, 1)").due("thing(1, 3)", 2).due("thing(1, 4)", NONE).due("thing(2, 3)", 0);
        run.does("pulls(0)", "takes(0)").due("thing(0, 3)", 3).due("thing(0, 4)", NONE);
        run.does("takes(1)").due("thing(1, 3)", 3).due("thing(2, 3)", 0);
        run.does("puts(2, 0)", "pulls(0)", "takes(2)").due("thing(2, 3)", 0).due("thing(2, 4)", 2).due("thing(2, 0)", 1);
    }

    private static void put() {
        Document.says("PUT: one that LIES on the FLOOR where a TRAY is, ON it, if it bears fewer than ROOM.");
        Run.told("t0 1 3;").due("puts(0, 1)", STATE).due("puts(0, 0)", 3);
        Run.told("t4 1 3;").due("puts(0, 0)", STATE).due("puts(0, 1)", 3);
        Run.told("t1 0 3;").due("puts(0, 0)", STATE).due("puts(0, 1)", STATE);
        Run.told("t1 0 3;").does("pulls(0)").due("puts(0, 1)", STATE).due("puts(0, 0)", 3);
        Run.told("t1 0 3;").does(2, "pulls(0)").due("puts(0, 0)", STATE).due("puts(0, 1)", STATE);
        Run.told("t1 0 3;").does(3, "pulls(0)").due("puts(0, 0)", STATE).due("puts(0, 1)", 3);
        Run.told("t2 0 3;").does(2, "pulls(0)").due("puts(0, 0)", 3);
        Run.told("t2 0 3;").does(2, "pulls(0)").due("puts(0, 1)", 3);
        Run full = Run.told("f3;r1;t0 1 3;t0 1 4;t2 1 5;").due("puts(0, 0)", 3).due("puts(1, 0)", FULL);
        full.due("puts(2, 1)", 5).does("takes(0)").due("puts(1, 0)", 4).due("puts(0, 0)", FULL);
    }

    private static void takenOff() {
        Document.says("TAKEN off: one that is ON a TRAY: it is HOME, if that is on the FLOOR TO, else it LIES on the FLOOR where that is.");
        Run.told("t0 2 1;").does("puts(0, 0)").due("takes(0)", 0).due("thing(0, 4)", 0);
        Run.told("t0 2 1;").does("puts(0, 0)", "pulls(0)").due("takes(0)", 0).due("thing(0, 4)", 1);
        Run.told("t0 2 1;").does("puts(0, 0)", "pulls(0)", "pulls(0)").due("takes(0)", 1).due("now(1)", 1);
        Run.told("t0 2 1;").does("puts(0, 0)").does(3, "pulls(0)").due("takes(0)", 0).due("thing(0, 4)", 3);
        Run.told("t4 3 1;").does("puts(0, 1)").due("takes(0)", 0).due("thing(0, 4)", 4);
        Run.told("t4 3 1;").does("puts(0, 1)", "pulls(0)").due("takes(0)", 1).due("now(1)", 1);
        Run.told("t4 3 1;").does("puts(0, 1)").does(2, "pulls(0)").due("takes(0)", 0).due("thing(0, 4)", 2);
        // The other tray's floor does not count.
        Run.told("t0 4 1;").does("puts(0, 0)").due("takes(0)", 0);
        Run.told("t4 0 1;").does("puts(0, 1)").due("takes(0)", 0);
        Run.told("t0 4 1;").does("puts(0, 0)").does(4, "pulls(0)").due("takes(0)", 1);
        Run.told("t4 0 1;").does("puts(0, 1)").does(4, "pulls(0)").due("takes(0)", 1);
    }

    private static void pulledUpAndDown() {
        Document.says("PULLED: TRAY 0 goes a FLOOR up (way 0; TRAY 1 down), down (1; TRAY 1 up), if there is such a FLOOR,");
        for (int floors = 3; floors <= 7; floors++) {
            Run run = Run.told("f" + floors + ";").due("pulls(1)", STATE).due("now(3)", 1);
            for (int floor = 1; floor < floors; floor++) {
                run.due("pulls(0)", floor).due("tray(1, 0)", floors - 1 - floor).due("now(3)", floor < floors - 1 ? 3 : 2);
            }
            run.due("pulls(0)", STATE);
            for (int floor = floors - 2; floor >= 0; floor--) {
                run.due("pulls(1)", floor).due("tray(1, 0)", floors - 1 - floor).due("now(3)", floor > 0 ? 3 : 1);
            }
            run.due("pulls(1)", STATE);
        }
    }

    /** In the middle of three floors both trays can be loaded, and both ways have a floor. */
    private static Run loaded(int strong, int weight0, int weight1) {
        Run run = Run.told("f3;s" + strong + ";t1 0 " + weight0 + ";t1 0 " + weight1 + ";");
        return run.does("pulls(0)", "puts(0, 0)", "puts(1, 1)");
    }

    private static void pulledByStrong() {
        Document.says("and WEIGHTS ON both TRAYS together differ by no more than STRONG;");
        for (int strong = 0; strong <= 7; strong++) {
            loaded(strong, 1, 1 + strong).due("now(3)", 3).due("pulls(0)", 2);
            loaded(strong, 1 + strong, 1).due("now(3)", 3).due("pulls(1)", 0);
            loaded(strong, 1, 2 + strong).due("now(3)", 0).due("pulls(0)", STATE).due("pulls(1)", STATE);
            loaded(strong, 2 + strong, 1).due("now(3)", 0).due("pulls(0)", STATE).due("pulls(1)", STATE);
        }
        String threeNines = "r3;t0 1 9;t0 1 9;t0 1 9;";
        Run.told("s27;" + threeNines).does("puts(0, 0)", "puts(1, 0)", "puts(2, 0)").due("pulls(0)", 1);
        Run.told("s26;" + threeNines).does("puts(0, 0)", "puts(1, 0)", "puts(2, 0)").due("pulls(0)", STATE);
        Run.told("s26;" + threeNines).does("puts(0, 0)", "puts(1, 0)").due("pulls(0)", 1);
        Run together = Run.told("s6;t0 1 3;t0 1 4;t4 1 1;").does("puts(0, 0)", "puts(1, 0)").due("pulls(0)", STATE);
        together.does("puts(2, 1)").due("pulls(0)", 1);
    }

    /** What is answered behind the 512th call is free; the class keeps to 999 there all the same. */
    private static void pulledAtMost() {
        Document.says("it is one PULL more (999 at most).");
        Run.anew().due("now(0)", 0).does("pulls(0)").due("now(0)", 1).does("pulls(1)").due("now(0)", 2);
        Run.anew().due("pulls(1)", STATE).due("now(0)", 0);
        RopeTrays x = Check.told("f3;t1 2 1;");
        for (int i = 1; i <= 998; i++) {
            x.pulls(i % 2 == 1 ? 0 : 1);
        }
        Check.due("PULLS", x.now(0), 998);
        Check.due("ways of 998", x.now(3), 1);
        Check.due("the 999th", x.pulls(0), 1);
        Check.due("PULLS", x.now(0), 999);
        Check.due("ways of 999", x.now(3), 0);
        Check.due("up", x.pulls(0), STATE);
        Check.due("down", x.pulls(1), STATE);
        Check.due("BAD ahead of STATE", x.pulls(2), BAD);
        Check.due("FLOOR", x.tray(0, 0), 1);
        Check.due("PULLS", x.now(0), 999);
        Check.due("PULL 999 does not matter: PLAN", x.plan(1, 0), 1);
        Check.due("PULL 999 does not matter: WAY", x.plan(1, 1), 0);
        Check.due("PULL 999 does not matter: ODDS", x.odds(0, 1, 0), 1);
        Check.due("keep", x.keep(0), 999);
        Check.due("undo", x.undo(), 9);
        Check.due("PULLS", x.now(0), 998);
        Check.due("the 999th again", x.pulls(0), 1);
        Check.due("back", x.back(0), 999);
        Check.due("as many as before", x.pulls(0), STATE);
    }

    private static void undone() {
        Document.says("UNDONE: the latest puts(), takes(), pulls() that was not refused (10 are known, older ones are lost).");
        for (int done = 0; done <= 12; done++) {
            Run run = Run.told("t0 1 1;").does(done / 2, "puts(0, 0)", "takes(0)").does(done % 2, "puts(0, 0)");
            int known = Math.min(done, 10);
            run.due("now(4)", known);
            for (int more = known - 1; more >= 0; more--) {
                run.due("undo()", more).due("tray(0, 1)", (done - known + more) % 2);
            }
            run.due("undo()", STATE).due("now(4)", 0);
        }
        Run each = Run.told("f3;t0 1 5;").does("puts(0, 0)", "pulls(0)", "takes(0)").due("now(4)", 3);
        each.due("takes(0)", STATE).due("puts(0, 0)", STATE).due("pulls(2)", BAD).due("now(4)", 3);
        each.due("undo()", 2).due("thing(0, 3)", 1).due("tray(0, 2)", 5).due("now(1)", 0);
        each.due("undo()", 1).due("tray(0, 0)", 0).due("tray(1, 0)", 2).due("now(0)", 0);
        each.due("undo()", 0).due("thing(0, 3)", 0).due("thing(0, 4)", 0).due("undo()", STATE);
        // The eleventh from the end is lost for good, also when those behind it have been undone.
        Run lost = Run.told("f7;").does("pulls(0)", "pulls(0)", "pulls(0)").does(5, "pulls(1)", "pulls(0)");
        for (int more = 9; more >= 0; more--) {
            lost.due("undo()", more);
        }
        lost.due("tray(0, 0)", 3).due("now(0)", 3).due("undo()", STATE).does("pulls(1)").due("undo()", 0).due("undo()", STATE);
        // What is known goes round: many are done and undone, and each of the latest ten is right.
        Run round = Run.told("f7;").does(3, "pulls(0)", "pulls(0)", "pulls(1)", "undo()", "pulls(1)", "pulls(1)");
        round.does("pulls(0)", "pulls(0)", "pulls(0)").due("now(0)", 15).due("tray(0, 0)", 3).due("now(4)", 10);
        int[] floors = {2, 1, 0, 1, 2, 1, 0, 1, 2, 1};
        for (int i = 0; i < 10; i++) {
            round.due("undo()", 9 - i).due("tray(0, 0)", floors[i]).due("now(0)", 14 - i);
        }
        round.due("undo()", STATE);
        Run others = Run.told("t0 1 1;").does("puts(0, 0)", "keep(0)", "sees(1, 1)", "forget()", "rate(0, 0)").types("x");
        others.does("clear()").due("now(4)", 1).due("undo()", 0).due("thing(0, 3)", 0);
    }

    private static void thing() {
        Document.says("Of a THING: 0 FROM, 1 TO, 2 WEIGHT, 3 where it is (0 .. 3), 4 the FLOOR where it LIES (NONE). BAD.");
        Run run = Run.told("f7;t6 0 9;t0 6 1;").within("thing(0, N)", 0, 4).within("thing(1, N)", 0, 4);
        run.within("thing(N, 0)", 0, 1).within("thing(N, 4)", 0, 1).due("thing(2, 5)", BAD).due("thing(-1, -1)", BAD);
        int[][] told = {{6, 0, 9, 0, 6}, {0, 6, 1, 0, 0}};
        for (int t = 0; t < 2; t++) {
            for (int what = 0; what <= 4; what++) {
                run.due("thing(" + t + ", " + what + ")", told[t][what]);
            }
        }
        run.does("puts(0, 1)", "puts(1, 0)").due("thing(0, 3)", 2).due("thing(0, 4)", NONE).due("thing(1, 3)", 1);
        run.does(6, "pulls(0)").does("takes(0)", "takes(1)").due("thing(0, 3)", 3).due("thing(1, 4)", NONE);
        for (int what = 0; what <= 2; what++) {
            run.due("thing(0, " + what + ")", told[0][what]).due("thing(1, " + what + ")", told[1][what]);
        }
        Run.anew().beyond("thing(N, 0)", 0, -1);
        Run.told("t0 1 1;t0 1 1;t0 1 1;t0 1 1;").within("thing(N, 0)", 0, 3);
    }

    private static void tray() {
        Document.says("Of a TRAY: 0 FLOOR, 1 THINGS ON it (bits), 2 their WEIGHT. BAD.");
        Run run = Run.told("r3;s30;t0 1 9;t4 1 8;t0 1 9;t0 1 9;").within("tray(0, N)", 0, 2).within("tray(1, N)", 0, 2);
        run.within("tray(N, 0)", 0, 1).within("tray(N, 2)", 0, 1);
        run.due("tray(0, 1)", 0).due("tray(0, 2)", 0).due("tray(1, 1)", 0).due("tray(1, 2)", 0);
        run.does("puts(3, 0)").due("tray(0, 1)", 8).due("tray(0, 2)", 9).does("puts(0, 0)").due("tray(0, 1)", 9);
        run.does("puts(2, 0)").due("tray(0, 1)", 13).due("tray(0, 2)", 27).due("tray(1, 1)", 0).due("tray(1, 2)", 0);
        run.does("puts(1, 1)").due("tray(1, 1)", 2).due("tray(1, 2)", 8).due("tray(0, 1)", 13).due("tray(0, 2)", 27);
        run.does("pulls(0)").due("tray(0, 0)", 1).due("tray(1, 0)", 3).does("takes(3)").due("tray(0, 1)", 5);
    }

    private static void now() {
        Document.says("0 how many PULLS, 1 THINGS that are HOME (bits), 2 THINGS that LIE (bits), 3 ways that can be PULLED (bits), 4 how many may be UNDONE. BAD.");
        Run run = Run.told("f3;t0 1 1;t0 1 2;t2 1 3;t2 1 4;").within("now(N)", 0, 4).due("now(1)", 0).due("now(2)", 15);
        run.does("puts(0, 0)", "puts(3, 1)").due("now(1)", 0).due("now(2)", 6).due("now(3)", 1).due("now(4)", 2);
        run.does("pulls(0)").due("now(0)", 1).due("now(3)", 3).does("takes(3)").due("now(1)", 8).due("now(2)", 6);
        run.does("takes(0)").due("now(1)", 9).due("now(2)", 6).does("pulls(0)").due("now(0)", 2).due("now(3)", 2);
        run.does("puts(1, 1)", "puts(2, 0)").due("now(2)", 0).does("pulls(1)", "takes(1)", "takes(2)").due("now(1)", 15);
        run.due("now(2)", 0).due("now(4)", 10);
        Run.told("s0;t0 1 1;").does("puts(0, 0)").due("now(3)", 0).does("takes(0)").due("now(3)", 1);
    }

    private static void puts() {
        Document.says("PUT: the WEIGHT of all ON that TRAY then. BAD; STATE: it doesn't LIE there; FULL: no ROOM.");
        Run run = Run.told("f3;r3;t0 2 1;t0 2 9;t0 2 9;t0 1 9;").beyond("puts(N, 0)", 0, 3).beyond("puts(0, N)", 0, 1);
        run.due("puts(0, 0)", 1).due("puts(1, 0)", 10).due("puts(2, 0)", 19).due("puts(3, 0)", FULL).due("puts(3, 1)", STATE);
        run.due("puts(0, 0)", STATE).due("puts(0, 1)", STATE).due("puts(0, 2)", BAD).due("puts(4, 0)", BAD);
        Run home = Run.told("f3;t0 1 5;").does("puts(0, 0)", "pulls(0)").due("puts(0, 1)", STATE).does("takes(0)");
        home.due("puts(0, 0)", STATE).due("puts(0, 1)", STATE);
        Run.anew().beyond("puts(N, 0)", 0, -1).beyond("puts(N, 1)", 0, -1);
    }

    private static void takes() {
        Document.says("TAKEN off: 1 it is HOME, 0 not. BAD; STATE: it is ON no TRAY.");
        Run run = Run.told("f3;t0 1 1;t2 0 1;").beyond("takes(N)", 0, 1).due("takes(0)", STATE).due("takes(1)", STATE);
        run.does("puts(0, 0)", "puts(1, 1)").due("takes(0)", 0).due("takes(0)", STATE).does("puts(0, 0)");
        run.does("pulls(0)").beyond("takes(N)", 0, 1).due("takes(0)", 1).due("takes(0)", STATE).due("takes(1)", 0);
        run.does("puts(1, 1)", "pulls(0)").due("takes(1)", 1).due("takes(1)", STATE).beyond("takes(N)", 0, 1);
        Run.anew().beyond("takes(N)", 0, -1);
    }

    private static void pulls() {
        Document.says("PULLED: the FLOOR of TRAY 0. BAD; STATE: it can't be, PULL 999.");
        Run run = Run.told("f3;").beyond("pulls(N)", 0, 1).due("pulls(1)", STATE).due("pulls(0)", 1).beyond("pulls(N)", 0, 1);
        run.due("pulls(0)", 2).due("pulls(0)", STATE).beyond("pulls(N)", 0, 1).due("pulls(1)", 1).due("pulls(1)", 0);
        Run heavy = Run.told("f3;s4;t1 0 5;").does("pulls(0)", "puts(0, 1)").due("pulls(0)", STATE).due("pulls(1)", STATE);
        heavy.beyond("pulls(N)", 0, 1).does("takes(0)").due("pulls(1)", 0);
    }

    private static void undo() {
        Document.says("UNDONE: how many more may be. STATE: none.");
        Run.anew().due("undo()", STATE).does("pulls(0)").due("undo()", 0).due("undo()", STATE);
        Run.anew().does(5, "pulls(0)", "pulls(1)").due("now(4)", 10).due("undo()", 9);
        Run.anew().does(5, "pulls(0)", "pulls(1)").does("pulls(0)").due("now(4)", 10).due("undo()", 9);
        Run.told("t0 1 1;").due("undo()", STATE).due("pulls(1)", STATE).due("undo()", STATE);
        Run.anew().does("pulls(0)", "house()").due("now(4)", 0).due("undo()", STATE);
        Run.anew().does("pulls(0)", "keep(0)", "back(0)").due("now(4)", 0).due("undo()", STATE);
    }

    private static void calls() {
        Document.says("An object is used for at most 512 calls after it has been made; what later calls answer is free.");
        RopeTrays x = new RopeTrays();
        for (int call = 1; call <= 510; call++) {
            Check.due("call " + call, x.pulls(call % 2 == 1 ? 0 : 1), call % 2);
        }
        Check.due("call 511", x.undo(), 9);
        Check.due("call 512", x.now(0), 509);
    }
}
