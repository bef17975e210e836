/** Every call that can be refused, in states that have much to lose: behind it nothing has changed (Run looks). */
public final class RefusedTest {
    private static final int BAD = RopeTrays.BAD, STATE = RopeTrays.STATE, FULL = RopeTrays.FULL;

    public static void main(String[] args) {
        Document.says("Refused, and nothing changes, the first of these: BAD (a number is not as told, or there is no such thing), STATE (as told), FULL.");
        notAsTold(Run.anew(), 5, 0);
        notAsTold(Run.told("f3;t0 1 1;"), 3, 1);
        notAsTold(busy(), 3, 4);
        notAsTold(full(), 7, 3);
        badAheadOfState();
        badAheadOfFull();
        stateAheadOfFull();
        states();
        faults();
        Check.end();
    }

    /** Something of everything: things in all four places, both images, SEEN, a text, what may be undone. */
    private static Run busy() {
        Run run = Run.told("f3;r1;s9;t0 1 5;t2 0 4;t0 2 3;t1 2 2;").does("puts(0, 0)", "keep(0)", "puts(1, 1)", "pulls(0)");
        run.does("takes(0)", "puts(3, 0)", "keep(1)", "sees(3, 1)", "sees(9, 0)", "rate(4, 0)").types("f4;r");
        return run.due("now(1)", 1).due("now(2)", 4).due("tray(0, 1)", 8).due("tray(1, 1)", 2).due("now(4)", 5);
    }

    /** All that has an end is at it: 100 letters, 6 SEEN, 10 known, ROOM of both trays, the uppermost floor. */
    private static Run full() {
        Run run = Run.told("f7;r1;t0 6 5;t6 0 4;t0 1 1;").does("puts(0, 0)", "puts(1, 1)").does("pulls(0)", "pulls(1)");
        run.does(6, "pulls(0)").does("keep(0)", "keep(1)").does(6, "sees(5, 1)").types("x".repeat(100));
        return run.due("now(4)", 10).due("count(4)", 6).due("count(5)", 100).due("now(3)", 2);
    }

    private static void notAsTold(Run run, int floors, int things) {
        run.beyond("type(N)", 0, 255).beyond("count(N)", 0, 5).beyond("now(N)", 0, 4);
        run.beyond("thing(N, 0)", 0, things - 1).beyond("thing(0, N)", 0, 4);
        run.beyond("tray(N, 0)", 0, 1).beyond("tray(0, N)", 0, 2).beyond("tray(1, N)", 0, 2);
        run.beyond("puts(N, 0)", 0, things - 1).beyond("puts(N, 1)", 0, things - 1).beyond("puts(0, N)", 0, 1);
        run.beyond("takes(N)", 0, things - 1).beyond("pulls(N)", 0, 1);
        int sets = (1 << things) - 1;
        run.beyond("plan(N, 0)", 0, sets).beyond("plan(N, 1)", 0, sets).beyond("plan(0, N)", 0, 1);
        run.beyond("even(N, -1)", 0, floors - 1).beyond("even(0, N)", -1, things - 1);
        run.beyond("odds(N, 0, 0)", 0, 10).beyond("odds(0, N, 0)", 0, 20).beyond("odds(0, 0, N)", 0, 1);
        run.beyond("sees(N, 0)", 0, 40).beyond("sees(0, N)", 0, 1).beyond("weights(N)", 0, 2);
        run.beyond("rate(N, 0)", 0, 5).beyond("rate(0, N)", 0, things - 1);
        run.beyond("keep(N)", 0, 1).beyond("back(N)", 0, 1);
    }

    private static void badAheadOfState() {
        Run run = Run.told("f3;s4;t0 1 5;t0 1 1;").due("undo()", STATE).does("puts(0, 0)");
        run.due("puts(0, 0)", STATE).due("puts(0, 2)", BAD).due("puts(2, 0)", BAD).due("puts(1, 1)", STATE).due("puts(1, -1)", BAD);
        run.due("takes(1)", STATE).due("takes(2)", BAD).due("takes(-1)", BAD);
        run.due("pulls(0)", STATE).due("pulls(1)", STATE).due("pulls(2)", BAD).due("pulls(-1)", BAD);
        run.due("back(0)", STATE).due("back(1)", STATE).due("back(2)", BAD).due("back(-1)", BAD);
    }

    private static void badAheadOfFull() {
        full().due("type(0)", FULL).due("type(256)", BAD).due("type(-1)", BAD);
        full().due("sees(0, 0)", FULL).due("sees(41, 0)", BAD).due("sees(0, 2)", BAD).due("sees(-1, -1)", BAD);
        Run run = Run.told("r1;t0 1 1;t0 1 1;").does("puts(0, 0)").due("puts(1, 0)", FULL);
        run.due("puts(2, 0)", BAD).due("puts(-1, 0)", BAD).due("puts(1, 2)", BAD).due("puts(1, -1)", BAD);
    }

    private static void stateAheadOfFull() {
        Run run = Run.told("f3;r1;t0 1 1;t0 1 1;t1 0 1;t2 0 1;").does("puts(0, 0)");
        run.due("puts(1, 0)", FULL).due("puts(2, 0)", STATE).due("puts(3, 0)", STATE).due("puts(0, 0)", STATE);
        run.does("puts(3, 1)").due("puts(3, 0)", STATE).due("puts(0, 1)", STATE).due("puts(1, 1)", STATE);
        run.does("pulls(0)").due("puts(2, 0)", FULL).due("puts(2, 1)", FULL).due("puts(1, 0)", STATE);
        run.does("takes(0)").due("puts(0, 0)", STATE).due("puts(0, 1)", STATE).does("puts(2, 0)").due("puts(0, 0)", STATE);
    }

    private static void states() {
        Run run = busy();
        for (int tray = 0; tray <= 1; tray++) {
            for (int t = 0; t <= 3; t++) {
                run.due("puts(" + t + ", " + tray + ")", STATE);
            }
        }
        run.due("takes(0)", STATE).due("takes(2)", STATE);
        full().due("pulls(0)", STATE).due("puts(0, 0)", STATE).due("puts(1, 1)", STATE).due("puts(2, 1)", FULL).due("takes(2)", STATE);
        Run.told("f3;t0 1 1;").types("f").does("sees(1, 1)", "keep(1)").due("pulls(1)", STATE).due("undo()", STATE).due("back(0)", STATE);
    }

    private static void faults() {
        String[] texts = {"f2;", "f3;f3;", "f3;t0 3 1;", "f3;t1 1 1;", "f3;t0 1 0;", "r1;r", "s1;s", "f7;r3;s0;t6 0 1;x", "f7;r3;s0;t6 0 1",
            "t0 1 1;t0 1 1;t0 1 1;t0 1 1;t", "s100;", "s01;"};
        int[] places = {1, 3, 6, 6, 8, 3, 3, 16, 15, 28, 1, 1};
        for (int i = 0; i < texts.length; i++) {
            Run run = busy().does("clear()").types(texts[i]).due("house()", -10 - places[i]).due("house()", -10 - places[i]);
            run.due("count(5)", texts[i].length());
        }
        full().due("house()", -10);
    }
}
