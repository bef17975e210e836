/** The document's heading 4 and promises 19 to 21 and 23, sentence by sentence, on both sides of each boundary. */
public final class KindsBoundsTest {
    private static final int BAD = RopeTrays.BAD, STATE = RopeTrays.STATE, NO = RopeTrays.NO, NONE = RopeTrays.NONE;
    private static final String FOUR = "f7;t0 6 9;t6 0 1;t1 2 3;t1 2 4;";

    public static void main(String[] args) {
        overOneAnother();
        traced();
        waiter();
        butler();
        cook();
        lord();
        maid();
        boy();
        belowZero();
        images();
        readAnew();
        rate();
        keep();
        back();
        trace();
        Check.end();
    }

    private static void overOneAnother() {
        Document.says("4 KINDS of WAITERS are over one another: 0 WAITER; 1 BUTLER, 2 COOK, 5 BOY (each under WAITER); 3 LORD (under BUTLER); 4 MAID (under COOK).");
        Run run = Run.told(FOUR).does("pulls(0)", "pulls(0)", "pulls(1)", "pulls(0)", "pulls(0)").due("tray(0, 0)", 3);
        int[] due = {4, 4 + 3, 4 - 4, 2 * (4 + 3), 4 - 4 + 3, 4 + 5};
        int[] adds = {1, 11, 101, 1011, 10101, 100001};
        long trace = 0;
        for (int kind = 0; kind <= 5; kind++) {
            trace += adds[kind];
            run.due("rate(" + kind + ", 3)", due[kind]).due("trace()", trace);
        }
    }

    private static void traced() {
        Document.says("RATE of a THING as if by a KIND (numbers in brackets are added to THE TRACE, 0 at first, as often as rate() asks that body: each once; \"up\" is what the KIND above does):");
        Run run = Run.told(FOUR).due("trace()", 0);
        run.due("rate(3, 0)", 18).due("trace()", 1011).due("rate(3, 0)", 18).due("trace()", 2022);
        run.due("rate(6, 0)", NO).due("rate(3, 4)", NO).due("trace()", 2022);
        // A number is added once for each call, however often: it does not run over into the next one's.
        run.does(12, "rate(0, 0)").due("trace()", 2034).does(12, "rate(4, 0)").due("trace()", 2034 + 12 * 10101);
    }

    private static void waiter() {
        Document.says("WAITER its WEIGHT (1).");
        Run.told(FOUR).due("rate(0, 0)", 9).due("rate(0, 1)", 1).due("trace()", 2);
        Run.told(FOUR).does("puts(0, 0)", "pulls(0)").due("rate(0, 0)", 9).due("trace()", 1);
    }

    private static void butler() {
        Document.says("BUTLER up, and the FLOOR of TRAY 0 (10).");
        Run run = Run.told(FOUR).due("rate(1, 0)", 9).due("trace()", 11);
        run.does(6, "pulls(0)").due("rate(1, 0)", 15).due("rate(1, 1)", 7).due("trace()", 33);
    }

    private static void cook() {
        Document.says("COOK up less how many LIE (100).");
        Run run = Run.told("f3;t0 1 1;t0 1 1;t2 1 1;t2 1 1;").due("rate(2, 0)", -3).due("trace()", 101);
        run.does("puts(0, 0)").due("rate(2, 0)", -2).does("puts(1, 0)", "puts(2, 1)", "puts(3, 1)").due("rate(2, 0)", 1);
        run.does("takes(0)").due("rate(2, 0)", 0).does("puts(0, 0)", "pulls(0)", "takes(0)").due("now(1)", 1);
        run.due("rate(2, 0)", 1).due("trace()", 505);
    }

    private static void lord() {
        Document.says("LORD twice up (1000).");
        Run run = Run.told(FOUR).due("rate(3, 1)", 2).due("trace()", 1011);
        run.does(6, "pulls(0)").due("rate(3, 1)", 14).due("rate(3, 0)", 30).due("trace()", 3033);
    }

    private static void maid() {
        Document.says("MAID up, and its number (10000).");
        Run run = Run.told("f3;t0 1 1;t0 1 1;t0 1 1;t0 1 1;");
        for (int t = 0; t <= 3; t++) {
            run.due("rate(4, " + t + ")", -3 + t).due("trace()", 10101 * (t + 1));
        }
        Run.told("t0 1 1;").due("rate(4, 0)", 0);
    }

    private static void boy() {
        Document.says("BOY up, and how many PULLS (100000).");
        Run run = Run.told("t0 1 9;").due("rate(5, 0)", 9).due("trace()", 100001);
        run.does("pulls(0)").due("rate(5, 0)", 10).does("pulls(1)").due("rate(5, 0)", 11).does("undo()").due("rate(5, 0)", 10);
        run.does("keep(0)", "pulls(1)", "pulls(0)", "back(0)").due("rate(5, 0)", 10).due("trace()", 500005);
    }

    private static void belowZero() {
        Document.says("The constants: `NO = -1000000`: What is BAD, where a number may be below 0.");
        Check.due("NO", RopeTrays.NO, -1000000);
        // These are numbers, not refusals, though they look like BAD, STATE, FULL.
        Run run = Run.told("t0 1 1;t0 1 2;t0 1 3;t0 1 4;");
        run.due("rate(2, 0)", -3).due("rate(2, 1)", -2).due("rate(2, 2)", -1).due("rate(2, 3)", 0).due("trace()", 404);
        run.due("rate(2, 4)", NO).due("rate(2, -1)", NO).due("rate(-1, 0)", NO).due("trace()", 404);
    }

    private static void images() {
        Document.says("IMAGES 0, 1 keep NOW (where TRAYS, THINGS are, how many PULLS); nothing else (nothing can be UNDONE behind back()).");
        Run run = Run.told("f3;t0 2 5;t2 0 4;t0 1 1;t0 1 1;").beyond("keep(N)", 0, 1).beyond("back(N)", 0, 1).does("keep(1)");
        run.does("puts(0, 0)", "puts(1, 1)", "puts(2, 0)", "pulls(0)", "takes(1)", "takes(2)", "keep(0)").due("now(4)", 6);
        run.does("sees(3, 1)", "rate(5, 0)").types("abc").does("puts(1, 0)", "pulls(0)", "takes(0)");
        run.due("back(0)", 1).due("now(4)", 0).due("undo()", STATE).due("now(0)", 1).due("tray(0, 0)", 1);
        run.due("tray(0, 1)", 1).due("tray(1, 1)", 0).due("thing(1, 4)", 1).due("now(1)", 4).due("now(2)", 10);
        run.due("count(4)", 1).due("count(5)", 3).due("trace()", 100001);
        run.due("back(1)", 0).due("tray(0, 0)", 0).due("now(2)", 15).due("thing(1, 4)", 2).due("now(0)", 0);
        run.does("pulls(0)").due("now(4)", 1).due("undo()", 0).due("undo()", STATE);
        run.due("back(0)", 1).due("tray(0, 1)", 1).does("forget()", "clear()", "back(0)").due("count(4)", 0).due("count(5)", 0);
    }

    private static void readAnew() {
        Document.says("(Read anew: as told, no PULL, nothing SEEN, IMAGES are gone.)");
        Run run = Run.told("f7;r3;s30;t0 6 5;t6 0 4;").does("puts(0, 0)", "puts(1, 1)", "pulls(0)", "keep(0)", "keep(1)");
        run.does("sees(3, 1)").types("f3;t0 2 5;").due("house()", 2).due("now(0)", 0).due("now(1)", 0).due("now(2)", 1);
        run.due("now(4)", 0).due("undo()", STATE).due("tray(0, 0)", 0).due("tray(1, 0)", 2).due("tray(0, 1)", 0);
        run.due("thing(0, 3)", 0).due("thing(0, 4)", 0).due("thing(1, 0)", BAD).due("count(4)", 0).due("weights(0)", 9);
        run.due("back(0)", STATE).due("back(1)", STATE).due("count(0)", 3).due("count(1)", 2).due("count(2)", 9);
        Run home = Run.told("t0 1 1;").does("puts(0, 0)", "pulls(0)", "takes(0)").types("t0 1 1;").due("house()", 1);
        home.due("now(1)", 0).due("now(2)", 1).due("thing(0, 4)", 0);
        // A text that is not read leaves all of it.
        Run fault = Run.told("f7;t0 6 5;").does("puts(0, 0)", "pulls(0)", "keep(0)", "sees(3, 1)").types("f3;t0 2 5");
        fault.due("house()", -19).due("now(0)", 1).due("count(4)", 1).due("tray(0, 1)", 1).due("back(0)", 1);
    }

    private static void rate() {
        Document.says("RATE. NO: BAD.");
        for (int things = 0; things <= 4; things++) {
            Run run = Run.told("t0 1 9;".repeat(things)).beyond("rate(N, 0)", 0, 5).beyond("rate(N, 3)", 0, 5);
            for (int kind = 0; kind <= 5; kind++) {
                run.within("rate(" + kind + ", N)", 0, things - 1);
            }
        }
        Run.told("t0 1 9;").within("rate(N, 0)", 0, 5).due("rate(6, 1)", NO).due("rate(-1, -1)", NO);
    }

    private static void keep() {
        Document.says("An IMAGE is kept: how many PULLS. BAD.");
        Run run = Run.anew().within("keep(N)", 0, 1).due("keep(0)", 0).does("pulls(0)").due("keep(0)", 1).beyond("keep(N)", 0, 1);
        run.does("pulls(1)").due("keep(1)", 2).does("undo()").due("keep(1)", 1).due("now(4)", 1).due("back(1)", 1);
    }

    private static void back() {
        Document.says("All of that becomes as an IMAGE has it: how many PULLS. BAD; STATE: none was kept.");
        Run run = Run.anew().beyond("back(N)", 0, 1).due("back(0)", STATE).due("back(1)", STATE).does("pulls(0)", "keep(0)");
        run.due("back(1)", STATE).beyond("back(N)", 0, 1).does("pulls(0)", "pulls(0)").due("back(0)", 1).due("tray(0, 0)", 1);
        run.does("pulls(0)").due("back(0)", 1).due("back(0)", 1).due("back(1)", STATE).does("keep(1)").due("back(1)", 1);
        Run other = Run.told("t0 1 1;").does("puts(0, 0)", "keep(1)").due("back(0)", STATE).does("takes(0)", "pulls(0)");
        other.due("back(1)", 0).due("thing(0, 3)", 1).due("thing(0, 4)", NONE).due("tray(0, 0)", 0);
    }

    private static void trace() {
        Document.says("THE TRACE.");
        Run.anew().due("trace()", 0);
        Run run = Run.told("t0 1 9;").due("trace()", 0).does("rate(5, 0)").due("trace()", 100001).due("rate(5, 1)", NO);
        run.does("puts(0, 0)", "pulls(0)", "undo()", "keep(0)", "back(0)", "house()").due("trace()", 100001);
        RopeTrays x = Check.told("t0 1 9;");
        for (int i = 0; i < 500; i++) {
            x.rate(5, 0);
        }
        Check.due("the greatest that a run can bring", x.trace(), 50000500L);
    }
}
