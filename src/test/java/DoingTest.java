/** Promises 5 to 11: thing, tray, now, puts, takes, pulls, undo. */
public final class DoingTest {
    private static final int BAD = RopeTrays.BAD, STATE = RopeTrays.STATE, FULL = RopeTrays.FULL, NONE = RopeTrays.NONE;
    private static final int[] WILD = {-1, -2, 5, 100, Integer.MIN_VALUE, Integer.MAX_VALUE};

    public static void main(String[] args) {
        wrongNumbers();
        puts();
        takes();
        pulls();
        strong();
        undoes();
        undoKnowsTen();
        refusedIsNotUndone();
        Check.end();
    }

    private static void wrongNumbers() {
        RopeTrays x = Check.told("t0 4 1;t4 0 1;");
        for (int wild : WILD) {
            Check.due("thing(" + wild + ", 0)", x.thing(wild, 0), BAD);
            Check.due("thing(0, " + wild + ")", x.thing(0, wild), BAD);
            Check.due("tray(" + wild + ", 0)", x.tray(wild, 0), BAD);
            Check.due("tray(0, " + wild + ")", x.tray(0, wild), BAD);
            Check.due("now(" + wild + ")", x.now(wild), BAD);
            Check.due("puts(" + wild + ", 0)", x.puts(wild, 0), BAD);
            Check.due("puts(0, " + wild + ")", x.puts(0, wild), BAD);
            Check.due("takes(" + wild + ")", x.takes(wild), BAD);
            Check.due("pulls(" + wild + ")", x.pulls(wild), BAD);
        }
        Check.due("thing(2, 0): told are two", x.thing(2, 0), BAD);
        Check.due("puts(2, 0): told are two", x.puts(2, 0), BAD);
        Check.due("takes(2): told are two", x.takes(2), BAD);
        Check.due("tray(2, 0)", x.tray(2, 0), BAD);
        Check.due("tray(0, 3)", x.tray(0, 3), BAD);
        Check.due("puts(0, 2)", x.puts(0, 2), BAD);
        Check.due("pulls(2)", x.pulls(2), BAD);
        Check.due("nothing was done", x.now(4), 0);
    }

    private static void puts() {
        RopeTrays x = Check.told("f3;t0 2 5;t0 1 4;t0 2 3;t2 0 2;s30;");
        Check.due("put on the tray elsewhere", x.puts(0, 1), STATE);
        Check.due("put", x.puts(0, 0), 5);
        Check.due("put again", x.puts(0, 0), STATE);
        Check.due("put a second one", x.puts(1, 0), 9);
        Check.due("no ROOM", x.puts(2, 0), FULL);
        Check.due("STATE ahead of FULL", x.puts(3, 0), STATE);
        Check.due("the other tray has room", x.puts(3, 1), 2);
        Check.due("where 0 is", x.thing(0, 3), 1);
        Check.due("where 3 is", x.thing(3, 3), 2);
        Check.due("0 LIES on no floor", x.thing(0, 4), NONE);
        Check.due("ON tray 0", x.tray(0, 1), 3);
        Check.due("WEIGHT on tray 0", x.tray(0, 2), 9);
        Check.due("ON tray 1", x.tray(1, 1), 8);
        Check.due("WEIGHT on tray 1", x.tray(1, 2), 2);
        Check.due("LIE", x.now(2), 4);
        Check.due("HOME", x.now(1), 0);

        RopeTrays one = Check.told("r1;t0 1 1;t0 1 1;");
        Check.due("ROOM 1, first", one.puts(0, 0), 1);
        Check.due("ROOM 1, second", one.puts(1, 0), FULL);
        RopeTrays three = Check.told("r3;t0 1 1;t0 1 2;t0 1 3;t0 1 4;");
        Check.due("ROOM 3, first", three.puts(3, 0), 4);
        Check.due("ROOM 3, second", three.puts(1, 0), 6);
        Check.due("ROOM 3, third", three.puts(2, 0), 9);
        Check.due("ROOM 3, fourth", three.puts(0, 0), FULL);

        RopeTrays middle = Check.told("f3;t1 0 1;t1 2 2;");
        middle.pulls(0);
        Check.due("both trays on one floor: tray 1", middle.puts(0, 1), 1);
        Check.due("both trays on one floor: tray 0", middle.puts(1, 0), 2);
    }

    private static void takes() {
        RopeTrays x = Check.told("f3;t0 2 5;t2 1 4;");
        Check.due("takes one that LIES", x.takes(0), STATE);
        x.puts(0, 0);
        x.puts(1, 1);
        x.pulls(0);
        Check.due("taken elsewhere", x.takes(0), 0);
        Check.due("it LIES", x.thing(0, 3), 0);
        Check.due("on that floor", x.thing(0, 4), 1);
        Check.due("FROM stays", x.thing(0, 0), 0);
        Check.due("off tray 1, home", x.takes(1), 1);
        Check.due("it is HOME", x.thing(1, 3), 3);
        Check.due("HOME lies nowhere", x.thing(1, 4), NONE);
        Check.due("HOME bits", x.now(1), 2);
        Check.due("LIE bits", x.now(2), 1);
        Check.due("takes one that is HOME", x.takes(1), STATE);
        Check.due("puts one that is HOME", x.puts(1, 0), STATE);
        Check.due("put from there on tray 1", x.puts(0, 1), 5);
        x.pulls(1);
        Check.due("tray 1 is up", x.tray(1, 0), 2);
        Check.due("home by tray 1", x.takes(0), 1);
        Check.due("all HOME", x.now(1), 3);
    }

    private static void pulls() {
        RopeTrays x = Check.told("f3;");
        Check.due("no floor below", x.pulls(1), STATE);
        Check.due("ways at the bottom", x.now(3), 1);
        Check.due("up", x.pulls(0), 1);
        Check.due("tray 1 comes down", x.tray(1, 0), 1);
        Check.due("ways in the middle", x.now(3), 3);
        Check.due("up again", x.pulls(0), 2);
        Check.due("tray 1 at the bottom", x.tray(1, 0), 0);
        Check.due("ways at the top", x.now(3), 2);
        Check.due("no floor above", x.pulls(0), STATE);
        Check.due("down", x.pulls(1), 1);
        Check.due("PULLS", x.now(0), 3);

        RopeTrays seven = Check.told("f7;");
        for (int floor = 1; floor <= 6; floor++) {
            Check.due("up seven", seven.pulls(0), floor);
        }
        Check.due("above seven", seven.pulls(0), STATE);
    }

    private static void strong() {
        RopeTrays x = Check.told("s4;t0 4 5;t4 0 1;t1 2 1;");
        x.puts(0, 0);
        Check.due("5 against 0 by 4", x.pulls(0), STATE);
        Check.due("no way", x.now(3), 0);
        x.puts(1, 1);
        Check.due("one way", x.now(3), 1);
        Check.due("5 against 1 by 4", x.pulls(0), 1);
        x.puts(2, 0);
        Check.due("6 against 1 by 4", x.pulls(0), STATE);
        Check.due("nor down", x.pulls(1), STATE);
        RopeTrays other = Check.told("s4;t4 0 5;");
        other.puts(0, 1);
        Check.due("0 against 5 by 4", other.pulls(0), STATE);
        RopeTrays none = Check.told("s0;t0 1 3;t4 1 3;");
        none.puts(0, 0);
        Check.due("3 against 0 by 0", none.pulls(0), STATE);
        none.puts(1, 1);
        Check.due("3 against 3 by 0", none.pulls(0), 1);
    }

    private static void undoes() {
        RopeTrays x = Check.told("f3;t0 1 5;t0 2 4;");
        x.puts(0, 0);
        x.puts(1, 0);
        x.pulls(0);
        x.takes(0);
        x.takes(1);
        Check.due("may be UNDONE", x.now(4), 5);
        Check.due("undo takes, not home", x.undo(), 4);
        Check.due("it is ON again", x.thing(1, 3), 1);
        Check.due("undo takes, home", x.undo(), 3);
        Check.due("it isn't HOME", x.thing(0, 3), 1);
        Check.due("undo pulls", x.undo(), 2);
        Check.due("FLOOR again", x.tray(0, 0), 0);
        Check.due("PULLS again", x.now(0), 0);
        Check.due("undo puts", x.undo(), 1);
        Check.due("it LIES again", x.thing(1, 4), 0);
        Check.due("undo the first", x.undo(), 0);
        Check.due("all LIE again", x.now(2), 3);
        Check.due("no more", x.undo(), STATE);
        x.puts(1, 0);
        x.pulls(0);
        x.takes(1);
        x.puts(1, 1);
        x.undo();
        Check.due("it LIES where it was taken off", x.thing(1, 4), 1);
        x.undo();
        x.undo();
        x.undo();
        Check.due("it LIES where it lay first", x.thing(1, 4), 0);
    }

    private static void undoKnowsTen() {
        RopeTrays x = Check.told("f7;");
        for (int i = 1; i <= 13; i++) {
            x.pulls(i % 2 == 1 ? 0 : 1);
            Check.due("UNDONE may be, of " + i, x.now(4), Math.min(i, 10));
        }
        for (int i = 9; i >= 0; i--) {
            Check.due("undo of ten", x.undo(), i);
            Check.due("PULLS then", x.now(0), 3 + i);
            Check.due("FLOOR then", x.tray(0, 0), (3 + i) % 2);
        }
        Check.due("older ones are lost", x.undo(), STATE);
        Check.due("PULLS stay", x.now(0), 3);
    }

    private static void refusedIsNotUndone() {
        RopeTrays x = Check.told("f3;r1;t0 2 1;t0 2 2;");
        x.puts(0, 0);
        x.puts(1, 0);
        x.puts(1, 1);
        x.puts(2, 0);
        x.takes(1);
        x.takes(9);
        x.pulls(1);
        x.pulls(5);
        Check.due("just one was done", x.now(4), 1);
        Check.due("undo it", x.undo(), 0);
        Check.due("all LIE", x.now(2), 3);
    }
}
