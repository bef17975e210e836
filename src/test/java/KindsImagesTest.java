/** Promises 19, 20, 21, 23: rate, keep, back, trace. */
public final class KindsImagesTest {
    private static final int BAD = RopeTrays.BAD, STATE = RopeTrays.STATE;
    private static final int[] WILD = {-1, 6, 100, Integer.MIN_VALUE, Integer.MAX_VALUE};

    public static void main(String[] args) {
        rates();
        below0();
        wrongNumbers();
        images();
        imagesKeepNothingElse();
        Check.end();
    }

    private static void rates() {
        RopeTrays x = Check.told("f7;t0 6 5;t6 0 9;t1 2 3;t1 2 4;");
        x.pulls(0);
        x.pulls(0);
        x.pulls(1);
        x.pulls(0);
        x.pulls(1);
        x.pulls(0);
        x.pulls(0);
        Check.due("FLOOR", x.tray(0, 0), 3);
        Check.due("PULLS", x.now(0), 7);
        int[] due = {3, 3 + 3, 3 - 4, 2 * (3 + 3), 3 - 4 + 2, 3 + 7};
        int[] traced = {1, 11, 101, 1011, 10101, 100001};
        long trace = 0;
        for (int round = 0; round < 2; round++) {
            for (int kind = 0; kind < 6; kind++) {
                Check.due("rate(" + kind + ", 2)", x.rate(kind, 2), due[kind]);
                trace += traced[kind];
                Check.due("trace behind rate(" + kind + ", 2)", x.trace(), trace);
            }
        }
        Check.due("MAID adds its number", x.rate(4, 0), 5 - 4);
        Check.due("MAID adds its number 3", x.rate(4, 3), 4 - 4 + 3);
        Check.due("house keeps the trace", Check.tell(x, "t0 1 1;"), 1);
        Check.due("the trace", x.trace(), trace + 2 * 10101);
    }

    private static void below0() {
        RopeTrays x = Check.told("t0 4 1;t1 4 9;t2 4 9;t0 4 9;");
        Check.due("COOK, four LIE", x.rate(2, 0), -3);
        x.puts(0, 0);
        Check.due("COOK, three LIE", x.rate(2, 0), -2);
        Check.due("MAID, three LIE", x.rate(4, 1), 9 - 3 + 1);
        x.takes(0);
        x.puts(3, 0);
        Check.due("COOK, ON does not LIE", x.rate(2, 3), 6);
    }

    private static void wrongNumbers() {
        RopeTrays x = Check.told("t0 1 1;");
        for (int wild : WILD) {
            Check.due("rate(" + wild + ", 0)", x.rate(wild, 0), RopeTrays.NO);
            Check.due("rate(0, " + wild + ")", x.rate(0, wild), RopeTrays.NO);
            Check.due("keep(" + wild + ")", x.keep(wild), BAD);
            Check.due("back(" + wild + ")", x.back(wild), BAD);
        }
        Check.due("rate(0, 1): told is one", x.rate(0, 1), RopeTrays.NO);
        Check.due("keep(2)", x.keep(2), BAD);
        Check.due("back(2)", x.back(2), BAD);
        Check.due("the trace", x.trace(), 0);
        Check.due("back(0) of nothing", x.back(0), STATE);
        Check.due("back(1) of nothing", x.back(1), STATE);
    }

    private static void images() {
        RopeTrays x = Check.told("f3;t0 1 5;t2 0 4;");
        Check.due("keep at first", x.keep(0), 0);
        Check.due("the other one is not kept", x.back(1), STATE);
        x.puts(0, 0);
        x.puts(1, 1);
        x.pulls(0);
        x.takes(1);
        Check.due("keep leaves what may be UNDONE", x.keep(1), 1);
        Check.due("so many", x.now(4), 4);
        x.takes(0);
        x.puts(1, 1);
        x.pulls(0);
        Check.due("back(1)", x.back(1), 1);
        Check.due("FLOOR of image 1", x.tray(0, 0), 1);
        Check.due("ON of image 1", x.tray(0, 1), 1);
        Check.due("LIES of image 1", x.thing(1, 4), 1);
        Check.due("nothing can be UNDONE", x.now(4), 0);
        Check.due("undo", x.undo(), STATE);
        x.takes(0);
        Check.due("home", x.now(1), 1);
        Check.due("what is done since may be UNDONE", x.now(4), 1);
        Check.due("back(0)", x.back(0), 0);
        Check.due("all LIE", x.now(2), 3);
        Check.due("where it lay", x.thing(1, 4), 2);
        Check.due("PULLS", x.now(0), 0);
        Check.due("back(1) again", x.back(1), 1);
        Check.due("FLOOR again", x.tray(0, 0), 1);
        x.pulls(0);
        Check.due("keep over it", x.keep(1), 2);
        x.pulls(1);
        Check.due("back to the newer", x.back(1), 2);
        Check.due("refused back leaves UNDONE", x.pulls(1), 1);
        Check.due("BAD", x.back(5), BAD);
        Check.due("still known", x.now(4), 1);
    }

    private static void imagesKeepNothingElse() {
        RopeTrays x = Check.told("f3;t0 1 5;");
        x.keep(0);
        x.sees(3, 1);
        x.type(65);
        x.rate(5, 0);
        x.pulls(0);
        x.back(0);
        Check.due("SEEN stays", x.count(4), 1);
        Check.due("THE TEXT stays", x.count(5), 1);
        Check.due("THE TRACE stays", x.trace(), 100001);
        x.pulls(0);
        x.undo();
        Check.due("undo leaves IMAGES", x.back(0), 0);
    }
}
