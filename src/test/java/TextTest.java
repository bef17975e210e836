/** Promises 1 to 4 and 22: a new object, type, clear, house, count. */
public final class TextTest {
    public static void main(String[] args) {
        newObject();
        letters();
        clears();
        houses();
        houseBeginsAnew();
        faults();
        faultChangesNothing();
        counts();
        Check.end();
    }

    private static void newObject() {
        RopeTrays x = new RopeTrays();
        counts("new", x, 5, 2, 9, 0, 0, 0);
        Check.due("new tray(0, 0)", x.tray(0, 0), 0);
        Check.due("new tray(1, 0)", x.tray(1, 0), 4);
        for (int what = 0; what <= 2; what++) {
            Check.due("new now(" + what + ")", x.now(what), 0);
        }
        Check.due("new now(4)", x.now(4), 0);
        Check.due("new thing(0, 0)", x.thing(0, 0), RopeTrays.BAD);
        Check.due("new back(0)", x.back(0), RopeTrays.STATE);
        Check.due("new back(1)", x.back(1), RopeTrays.STATE);
        Check.due("new undo", x.undo(), RopeTrays.STATE);
        Check.due("new trace", x.trace(), 0);
        Check.due("new weights(0)", x.weights(0), 9);
    }

    private static void counts(String when, RopeTrays x, int... due) {
        for (int what = 0; what < due.length; what++) {
            Check.due(when + ": count(" + what + ")", x.count(what), due[what]);
        }
    }

    private static void letters() {
        RopeTrays x = new RopeTrays();
        Check.due("type(0)", x.type(0), 1);
        Check.due("type(255)", x.type(255), 2);
        int[] bad = {-1, 256, Integer.MIN_VALUE, Integer.MAX_VALUE};
        for (int letter : bad) {
            Check.due("type(" + letter + ")", x.type(letter), RopeTrays.BAD);
        }
        Check.due("letters behind BAD", x.count(5), 2);
        for (int i = 3; i <= 100; i++) {
            Check.due("letter " + i, x.type(32), i);
        }
        Check.due("letter 101", x.type(32), RopeTrays.FULL);
        Check.due("BAD ahead of FULL", x.type(256), RopeTrays.BAD);
        Check.due("letters behind FULL", x.count(5), 100);
    }

    private static void clears() {
        RopeTrays x = new RopeTrays();
        Check.due("clear of nothing", x.clear(), 0);
        Check.type(x, "f2;");
        Check.due("clear", x.clear(), 3);
        Check.due("letters behind clear", x.count(5), 0);
        Check.due("clear again", x.clear(), 0);
        Check.due("house of a cleared text", x.house(), 0);
        for (int i = 0; i < 100; i++) {
            x.type(32);
        }
        Check.due("clear of 100", x.clear(), 100);
        Check.due("type behind clear", x.type(32), 1);
    }

    private static void house(String text, int due) {
        RopeTrays x = new RopeTrays();
        Check.due("house of '" + text + "'", Check.tell(x, text), due);
        Check.due("letters behind house of '" + text + "'", x.count(5), due < 0 ? text.length() : 0);
    }

    private static void houses() {
        house("", 0);
        house("    ", 0);
        house("f3;", 1);
        house("f7;", 1);
        house("  f  7  ;  ", 1);
        house("r1;s0;", 2);
        house("s30;r3;", 2);
        house("f 3;t 0 2 1;r 1;t2 0 9;s 30;t 1 0 5;t 0 1 3;", 7);
        house("t0 4 1;t4 0 9;t0 1 1;t0 1 1;r2;s9;", 6);
        house("t0 1 1;".repeat(4) + " ".repeat(72), 4);

        RopeTrays x = Check.told("f6;t5 0 9;s12;t0 5 1;r3;");
        counts("told", x, 6, 3, 12, 2, 0, 0);
        int[][] due = {{5, 0, 9, 0, 5}, {0, 5, 1, 0, 0}};
        for (int t = 0; t < 2; t++) {
            for (int what = 0; what < 5; what++) {
                Check.due("thing(" + t + ", " + what + ")", x.thing(t, what), due[t][what]);
            }
        }
        Check.due("tray 1 of six floors", x.tray(1, 0), 5);
    }

    private static void houseBeginsAnew() {
        RopeTrays x = Check.told("f7;r1;s30;t0 6 5;t6 0 4;");
        x.puts(0, 0);
        x.puts(1, 1);
        x.pulls(0);
        x.keep(0);
        x.keep(1);
        x.sees(3, 1);
        x.rate(3, 0);
        Check.due("house anew", Check.tell(x, "t1 2 3;"), 1);
        counts("anew", x, 5, 2, 9, 1, 0, 0);
        Check.due("anew: PULLS", x.now(0), 0);
        Check.due("anew: HOME", x.now(1), 0);
        Check.due("anew: LIE", x.now(2), 1);
        Check.due("anew: UNDONE", x.now(4), 0);
        Check.due("anew: undo", x.undo(), RopeTrays.STATE);
        Check.due("anew: tray 0", x.tray(0, 0), 0);
        Check.due("anew: ON tray 0", x.tray(0, 1), 0);
        Check.due("anew: tray 1", x.tray(1, 0), 4);
        Check.due("anew: image 0", x.back(0), RopeTrays.STATE);
        Check.due("anew: image 1", x.back(1), RopeTrays.STATE);
        Check.due("anew: weights", x.weights(0), 9);
        Check.due("anew: the trace stays", x.trace(), 1011);
        Check.due("house of nothing", x.house(), 0);
        counts("of nothing", x, 5, 2, 9, 0, 0, 0);
    }

    private static void fault(String text, int place) {
        house(text, -10 - place);
    }

    private static void faults() {
        String four = "t0 1 1;t0 1 1;t0 1 1;t0 1 1;";
        fault("f2;", 1);
        fault("f8;", 1);
        fault("f3;f3;", 3);
        fault("r1;f3;", 3);
        fault("t0 1 1; f3;", 8);
        fault("r0;", 1);
        fault("r4;", 1);
        fault("r1;r1;", 3);
        fault("s31;", 1);
        fault("s 1 ; s 1 ;", 6);
        fault(four + "t", 28);
        fault(four + "r1;t0 1 1;", 31);
        fault("t5 0 1;", 1);
        fault("t0 5 1;", 3);
        fault("f7;t6 7 1;", 6);
        fault("f3;t3 0 1;", 4);
        fault("t0 0 1;", 3);
        fault("t0 1 0;", 5);
        fault("t0 1 10;", 5);
        fault("t0 1;", 4);
        fault("t0 1 1 1;", 7);
        fault("t;", 1);
        fault("ff", 1);
        fault("s s", 2);
        fault(";", 0);
        fault("r1;;", 3);
        fault("1", 0);
        fault("r1 1;", 3);
        fault("r1 r", 3);
        fault("y", 0);
        fault("F5;", 0);
        fault("r1;" + (char) 9 + "s1;", 3);
        fault("s1y;", 2);
        fault("s1-", 2);
        fault("s" + (char) 255, 1);
        fault("s" + (char) 0, 1);
        fault("s01;", 1);
        fault("s00;", 1);
        fault("t 00 1 1;", 2);
        fault("s100;", 1);
        fault("s99;", 1);
        fault("s 4294967296;", 2);
        fault("s 4294967301 ;", 2);
        fault("t100", 1);
        fault("f", 1);
        fault("f3", 2);
        fault("f3  ", 4);
        fault("t0 1 1;t0 ", 10);
        fault("s", 1);
        fault(four + "s9", 30);
        fault("r9;y", 1);
        fault("y;r9;", 0);
        fault("s1;".repeat(1) + " ".repeat(96) + "r", 100);
    }

    private static void faultChangesNothing() {
        RopeTrays x = Check.told("f4;r1;s20;t0 3 7;");
        x.puts(0, 0);
        x.pulls(0);
        x.keep(1);
        x.sees(5, 1);
        Check.due("a fault", Check.tell(x, "f7;r3;s0;t0 6 1;t1 2 3;r"), -10 - 23);
        counts("behind a fault", x, 4, 1, 20, 1, 1, 24);
        Check.due("behind a fault: WEIGHT", x.thing(0, 2), 7);
        Check.due("behind a fault: where", x.thing(0, 3), 1);
        Check.due("behind a fault: FLOOR", x.tray(0, 0), 1);
        Check.due("behind a fault: PULLS", x.now(0), 1);
        Check.due("behind a fault: UNDONE", x.now(4), 2);
        Check.due("behind a fault: image", x.back(1), 1);
        Check.due("the same fault again", x.house(), -33);
    }

    private static void counts() {
        RopeTrays x = Check.told("f3;r1;s30;t0 1 1;");
        x.sees(1, 1);
        x.sees(2, 1);
        x.type(65);
        counts("counts", x, 3, 1, 30, 1, 2, 1);
        int[] bad = {-1, 6, Integer.MIN_VALUE, Integer.MAX_VALUE};
        for (int what : bad) {
            Check.due("count(" + what + ")", x.count(what), RopeTrays.BAD);
        }
    }
}
