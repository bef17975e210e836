/** The document's heading 1 and promises 1 to 4 and 22, sentence by sentence, on both sides of each boundary. */
public final class HouseBoundsTest {
    private static final int BAD = RopeTrays.BAD, STATE = RopeTrays.STATE, FULL = RopeTrays.FULL;
    private static final String FOUR = "t0 1 1;t0 1 1;t0 1 1;t0 1 1;";

    public static void main(String[] args) {
        floors();
        trays();
        room();
        strong();
        things();
        letters();
        items();
        floorsAreFirst();
        nextThing();
        onceEach();
        tokens();
        firstFault();
        cannotStand();
        wrongTokens();
        endsTooEarly();
        newObject();
        type();
        clear();
        house();
        count();
        Check.end();
    }

    private static Run fault(String text, int place) {
        return Run.typed(text).due("house()", -10 - place);
    }

    private static Run read(String text, int items) {
        return Run.typed(text).due("house()", items);
    }

    private static void floors() {
        Document.says("1 FLOORS 0 .. as many as are told less 1 (3 .. 7; 5 at first).");
        Run.anew().due("count(0)", 5).within("even(N, -1)", 0, 4);
        read("", 0).due("count(0)", 5).within("even(N, -1)", 0, 4);
        fault("f0;", 1);
        fault("f2;", 1);
        fault("f8;", 1);
        for (int floors = 3; floors <= 7; floors++) {
            String told = "f" + floors + ";";
            read(told, 1).due("count(0)", floors).within("even(N, -1)", 0, floors - 1);
            read(told + "t0 " + (floors - 1) + " 1;", 2).due("thing(0, 1)", floors - 1);
            read(told + "t" + (floors - 1) + " 0 1;", 2).due("thing(0, 0)", floors - 1);
            fault(told + "t0 " + floors + " 1;", 6);
            fault(told + "t" + floors + " 0 1;", 4);
        }
        read("t0 4 1;", 1);
        read("t4 0 1;", 1);
        fault("t0 5 1;", 3);
        fault("t5 0 1;", 1);
    }

    private static void trays() {
        Document.says("TRAYS: 0 is on FLOOR 0 at first; 1 is always on the FLOOR FLOORS less 1 less that of 0.");
        Run.anew().due("tray(0, 0)", 0).due("tray(1, 0)", 4);
        for (int floors = 3; floors <= 7; floors++) {
            Run run = Run.told("f" + floors + ";").due("tray(0, 0)", 0).due("tray(1, 0)", floors - 1);
            for (int floor = 1; floor < floors; floor++) {
                run.due("pulls(0)", floor).due("tray(0, 0)", floor).due("tray(1, 0)", floors - 1 - floor);
            }
            for (int floor = floors - 2; floor >= 0; floor--) {
                run.due("pulls(1)", floor).due("tray(0, 0)", floor).due("tray(1, 0)", floors - 1 - floor);
            }
        }
    }

    private static void bears(String text, int room) {
        Run tray0 = Run.told(text + FOUR).due("count(1)", room);
        Run tray1 = Run.told(text + FOUR.replace('0', '4'));
        for (int t = 0; t < room; t++) {
            tray0.due("puts(" + t + ", 0)", t + 1);
            tray1.due("puts(" + t + ", 1)", t + 1);
        }
        tray0.due("puts(" + room + ", 0)", FULL);
        tray1.due("puts(" + room + ", 1)", FULL);
        tray0.does("takes(0)").due("puts(" + room + ", 0)", room).due("puts(0, 0)", FULL);
    }

    private static void room() {
        Document.says("ROOM (1 .. 3; 2 at first): so many THINGS a TRAY bears.");
        Run.anew().due("count(1)", 2);
        fault("r0;", 1);
        fault("r4;", 1);
        bears("", 2);
        bears("r1;", 1);
        bears("r2;", 2);
        bears("r3;", 3);
    }

    private static void strong() {
        Document.says("STRONG (0 .. 30; 9 at first).");
        Run.anew().due("count(2)", 9);
        read("s0;", 1).due("count(2)", 0);
        read("s1;", 1).due("count(2)", 1);
        read("s29;", 1).due("count(2)", 29);
        read("s30;", 1).due("count(2)", 30);
        fault("s31;", 1);
        Run.told("t0 1 9;").does("puts(0, 0)").due("pulls(0)", 1);
        Run.told("t0 1 9;t0 1 1;").does("puts(0, 0)", "puts(1, 0)").due("pulls(0)", STATE);
    }

    private static void things() {
        Document.says("THINGS 0 .. (4 at most): FROM a FLOOR, TO another one, WEIGHT (1 .. 9).");
        for (int things = 0; things <= 4; things++) {
            Run run = read(FOUR.substring(0, 7 * things), things).due("count(3)", things);
            run.within("thing(N, 0)", 0, things - 1);
        }
        fault(FOUR + "t0 1 1;", 28);
        read("t0 1 1;", 1).due("thing(0, 0)", 0).due("thing(0, 1)", 1).due("thing(0, 2)", 1);
        read("t4 3 9;", 1).due("thing(0, 0)", 4).due("thing(0, 1)", 3).due("thing(0, 2)", 9);
        fault("t0 0 1;", 3);
        fault("t4 4 1;", 3);
        fault("t0 1 0;", 5);
        fault("t0 1 10;", 5);
    }

    private static void letters() {
        Document.says("They are a text (100 letters at most), told letter by letter, blanks (32) between TOKENS;");
        read(" ".repeat(97) + "r1;", 1).due("count(1)", 1);
        Run.typed(" ".repeat(97) + "r1").due("type(59)", 100).due("type(59)", FULL).due("house()", 1);
        Run.typed(" ".repeat(98) + "r1").due("type(59)", FULL).due("house()", -110);
        read("f3;t0 1 2;", 2);
        read(" f 3 ; t 0 1 2 ; ", 2);
        read("   f   3   ;   t   0   1   2   ;   ", 2);
        read("s10;", 1).due("count(2)", 10);
        fault("s1 0;", 3);
        for (int other : new int[] {0, 9, 10, 13, 31, 33, 160, 255}) {
            fault("r1;" + (char) other + "s1;", 3);
            fault("r" + (char) other + "1;", 1);
        }
    }

    private static void items() {
        Document.says("ITEMS, each ended by ; :");
        read("r1;s2;", 2);
        fault("r1", 2);
        fault("r1 s2;", 3);
        fault("r1;s2", 5);
        fault("r1;;", 3);
        fault(";", 0);
        fault(" ; r1;", 1);
        fault("5;", 0);
    }

    private static void floorsAreFirst() {
        Document.says("f N (FLOORS; the first of all, if it is told) ;");
        read("f3;r1;s1;t0 1 1;", 4).due("count(0)", 3);
        read("  f3;", 1).due("count(0)", 3);
        read("r1;s1;t0 1 1;", 3).due("count(0)", 5);
        fault("r1;f3;", 3);
        fault("s1;f3;", 3);
        fault("t0 1 1;f3;", 7);
        fault("f3;f3;", 3);
        fault("f3;r1;f3;", 6);
        fault("f;", 1);
        fault("f3 3;", 3);
    }

    private static void nextThing() {
        Document.says("t F T W (the next THING) ;");
        Run run = read("t0 1 2;r1;t3 4 5;", 3).due("count(3)", 2);
        for (int what = 0; what <= 2; what++) {
            run.due("thing(0, " + what + ")", what).due("thing(1, " + what + ")", what + 3);
        }
        fault("t;", 1);
        fault("t0;", 2);
        fault("t0 1;", 4);
        fault("t0 1 1 1;", 7);
        fault("t t0 1 1;", 2);
    }

    private static void onceEach() {
        Document.says("r N (ROOM), s N (STRONG; once at most each).");
        read("r3;s4;", 2).due("count(1)", 3).due("count(2)", 4);
        read("s4;r3;", 2).due("count(1)", 3).due("count(2)", 4);
        fault("r1;r1;", 3);
        fault("r1;s1;r2;", 6);
        fault("s1;s1;", 3);
        fault("s1;r1;s2;", 6);
        fault("r;", 1);
        fault("s;", 1);
        fault("r1 1;", 3);
        fault("s1 1;", 3);
    }

    private static void tokens() {
        Document.says("TOKENS are the letters f, t, r, s, NUMBERS and ; .");
        for (int letter = 0; letter <= 255; letter++) {
            char c = (char) letter;
            boolean digit = c >= '0' && c <= '9';
            boolean begins = c == 'f' || c == 't' || c == 'r' || c == 's';
            Run.typed("" + c).due("house()", c == ' ' ? 0 : begins ? -11 : -10);
            Run.typed("s" + c).due("house()", c == ' ' || digit ? -12 : -11);
            Run.typed("s1" + c).due("house()", c == ';' ? 1 : c == ' ' || digit ? -13 : -12);
        }
    }

    private static void firstFault() {
        Document.says("FAULT: the place of the first letter of the first TOKEN that can't stand there");
        fault("r9;y", 1);
        fault("y;r9;", 0);
        fault("  r  12 ;", 5);
        fault("t0 0 0;", 3);
        fault("t9 9 9;", 1);
        fault("r1;r100;", 3);
        fault("t0 1 1 y", 7);
    }

    private static void cannotStand() {
        Document.says("(f behind another ITEM, r, s again, a fifth t, TO that is FROM, a NUMBER beyond what it may be, too);");
        fault("s1; f", 4);
        fault("r1; r", 4);
        fault("s1; s", 4);
        fault(FOUR + " t", 29);
        fault(FOUR.substring(7) + "t0 1", 25);
        fault("t 2 2", 4);
        fault("t 2 1", 5);
        fault("f 2", 2);
        fault("f 3", 3);
        fault("f 7", 3);
        fault("f 8", 2);
        fault("r 0", 2);
        fault("r 1", 3);
        fault("r 3", 3);
        fault("r 4", 2);
        fault("s 30", 4);
        fault("s 31", 2);
        fault("t 4", 3);
        fault("t 5", 2);
        fault("t 0 4", 5);
        fault("t 0 5", 4);
        fault("t 0 1 0", 6);
        fault("t 0 1 1", 7);
        fault("t 0 1 9", 7);
        fault("t 0 1 10", 6);
    }

    private static void wrongTokens() {
        Document.says("of any other letter, a NUMBER above 99 or with a 0 ahead of others, that TOKEN's;");
        fault("r1;x", 3);
        fault("t0 x 1;", 3);
        fault("s1x;", 2);
        fault("sx1;", 1);
        fault("s 99;", 2);
        fault("s 100;", 2);
        fault("s 300;", 2);
        fault("s 1000;", 2);
        // Numbers that an int or a long would wrap around into what STRONG may be.
        fault("s 4294967296;", 2);
        fault("s 4294967301;", 2);
        fault("s 18446744073709551617;", 2);
        fault("s 1" + "0".repeat(96), 2);
        read("s0;", 1);
        fault("s00;", 1);
        fault("s 09;", 2);
        read("s10;", 1);
        fault("s010;", 1);
        fault("t00 1 1;", 1);
        fault("t0 01 1;", 3);
        fault("t0 1 01;", 5);
    }

    private static void endsTooEarly() {
        Document.says("the text's length, if it ends too early.");
        String text = "f7; t0 6 9;r3; s30;";
        int items = 0;
        for (int length = 0; length <= text.length(); length++) {
            String begin = text.substring(0, length);
            boolean whole = begin.isBlank() || begin.stripTrailing().endsWith(";");
            items += length > 0 && text.charAt(length - 1) == ';' ? 1 : 0;
            Run.typed(begin).due("house()", whole ? items : -10 - length);
        }
        fault("f3  ", 4);
        fault("s1;" + " ".repeat(95) + "r", 99);
        fault("s1;" + " ".repeat(96) + "r", 100);
        fault("r1" + " ".repeat(98), 100);
    }

    private static void newObject() {
        Document.says("As told; no THINGS.");
        Run run = Run.anew();
        int[] counts = {5, 2, 9, 0, 0, 0};
        for (int what = 0; what < counts.length; what++) {
            run.due("count(" + what + ")", counts[what]);
        }
        int[] now = {0, 0, 0, 1, 0};
        for (int what = 0; what < now.length; what++) {
            run.due("now(" + what + ")", now[what]);
        }
        run.due("thing(0, 0)", BAD).due("takes(0)", BAD).due("puts(0, 0)", BAD).due("rate(0, 0)", RopeTrays.NO);
        run.due("tray(0, 1)", 0).due("tray(0, 2)", 0).due("tray(1, 1)", 0).due("tray(1, 2)", 0);
        run.due("plan(0, 0)", 0).due("plan(1, 0)", BAD).due("even(0, -1)", 0).due("even(0, 0)", BAD);
        run.due("undo()", STATE).due("back(0)", STATE).due("back(1)", STATE).due("weights(0)", 9).due("trace()", 0);
        run.due("clear()", 0).due("forget()", 0).due("house()", 0);
    }

    private static void type() {
        Document.says("A letter (0 .. 255) comes to THE TEXT: how many it has. BAD; FULL.");
        Run.anew().beyond("type(N)", 0, 255).due("type(0)", 1).due("type(255)", 2).beyond("type(N)", 0, 255);
        Run full = Run.typed(" ".repeat(99)).beyond("type(N)", 0, 255).due("type(255)", 100);
        full.due("type(0)", FULL).due("type(32)", FULL).due("type(255)", FULL).beyond("type(N)", 0, 255);
        full.due("count(5)", 100).due("clear()", 100).due("type(32)", 1);
    }

    private static void clear() {
        Document.says("THE TEXT is empty: how many letters it had.");
        Run.anew().due("clear()", 0).due("clear()", 0);
        Run.typed("x").due("clear()", 1).due("count(5)", 0).due("clear()", 0).due("house()", 0);
        Run.typed(" ".repeat(100)).due("clear()", 100).due("count(5)", 0).due("type(114)", 1).due("house()", -11);
        Run.told("f3;r1;s1;t0 1 1;").types("f7;").due("clear()", 3).due("count(0)", 3).due("count(3)", 1);
    }

    private static void house() {
        Document.says("THE TEXT tells all anew, and is empty then: how many ITEMS. -10 less FAULT: nothing changes.");
        read("", 0).due("clear()", 0);
        read(" ", 0).due("clear()", 0);
        read("f3;" + FOUR + "r1;s0;", 7).due("clear()", 0);
        fault("x", 0).due("house()", -10).due("clear()", 1).due("house()", 0);
        fault("r1;" + " ".repeat(96) + "s", 100).due("house()", -110).due("clear()", 100);
        Run run = Run.told("f3;r1;s20;t0 2 7;t2 0 5;").does("puts(0, 0)", "pulls(0)", "keep(1)", "sees(5, 1)", "rate(3, 0)");
        run.types("f7;r3;s0;t0 6 1;t1 2 3;r").due("house()", -33).due("count(5)", 24).does("clear()");
        run.due("house()", 0).due("count(0)", 5).due("count(1)", 2).due("count(2)", 9).due("count(3)", 0);
    }

    private static void count() {
        Document.says("0 FLOORS, 1 ROOM, 2 STRONG, 3 THINGS, 4 SEEN, 5 letters of THE TEXT. BAD.");
        Run run = Run.told("f7;r3;s30;" + FOUR).does(6, "sees(9, 1)").types(" ".repeat(100)).within("count(N)", 0, 5);
        int[] most = {7, 3, 30, 4, 6, 100};
        for (int what = 0; what < most.length; what++) {
            run.due("count(" + what + ")", most[what]);
        }
        run = Run.told("f3;r1;s0;").within("count(N)", 0, 5);
        int[] least = {3, 1, 0, 0, 0, 0};
        for (int what = 0; what < least.length; what++) {
            run.due("count(" + what + ")", least[what]);
        }
    }
}
