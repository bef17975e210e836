/** Promises 15 to 18: sees, forget, weights, next. */
public final class HeavyTest {
    private static final int BAD = RopeTrays.BAD, FULL = RopeTrays.FULL, NONE = RopeTrays.NONE;

    public static void main(String[] args) {
        wrongNumbers();
        narrowing();
        forgets();
        byStrong();
        noWeightCanBe();
        Check.end();
    }

    private static void wrongNumbers() {
        RopeTrays x = new RopeTrays();
        int[] bad = {-1, 41, Integer.MIN_VALUE, Integer.MAX_VALUE};
        for (int wild : bad) {
            Check.due("sees(" + wild + ", 1)", x.sees(wild, 1), BAD);
            Check.due("sees(5, " + wild + ")", x.sees(5, wild), BAD);
            Check.due("weights(" + wild + ")", x.weights(wild), BAD);
        }
        Check.due("sees(0, 2)", x.sees(0, 2), BAD);
        Check.due("weights(3)", x.weights(3), BAD);
        Check.due("nothing is SEEN", x.count(4), 0);
        Check.due("sees(0, 1)", x.sees(0, 1), 1);
        Check.due("sees(40, 0)", x.sees(40, 0), 2);
        for (int i = 3; i <= 6; i++) {
            Check.due("sees " + i, x.sees(9, 1), i);
        }
        Check.due("a seventh", x.sees(9, 1), FULL);
        Check.due("BAD ahead of FULL", x.sees(41, 1), BAD);
        Check.due("six are SEEN", x.count(4), 6);
    }

    private static void weigh(String when, RopeTrays x, int many, int least, int greatest, int next) {
        Check.due(when + ": how many", x.weights(0), many);
        Check.due(when + ": least", x.weights(1), least);
        Check.due(when + ": greatest", x.weights(2), greatest);
        Check.due(when + ": next", x.next(), next);
    }

    private static void narrowing() {
        RopeTrays x = new RopeTrays();
        weigh("at first", x, 9, 1, 9, 14);
        x.sees(14, 1);
        weigh("5 .. 9", x, 5, 5, 9, 16);
        x.sees(16, 0);
        weigh("5, 6", x, 2, 5, 6, 15);
        x.sees(15, 1);
        weigh("6", x, 1, 6, 6, NONE);
    }

    private static void forgets() {
        RopeTrays x = new RopeTrays();
        Check.due("forget nothing", x.forget(), 0);
        x.sees(14, 1);
        x.sees(16, 0);
        Check.due("forget two", x.forget(), 2);
        Check.due("SEEN behind forget", x.count(4), 0);
        weigh("forgotten", x, 9, 1, 9, 14);
        Check.due("sees anew", x.sees(14, 0), 1);
        weigh("1 .. 4", x, 4, 1, 4, 12);
        for (int i = 0; i < 5; i++) {
            x.sees(14, 0);
        }
        Check.due("forget six", x.forget(), 6);
        Check.due("not FULL then", x.sees(1, 1), 1);
    }

    private static void byStrong() {
        weigh("STRONG 0", Check.told("s0;"), 9, 1, 9, 1);
        weigh("STRONG 1", Check.told("s1;"), 9, 1, 9, 2);
        weigh("STRONG 2", Check.told("s2;"), 9, 1, 9, 2);
        weigh("STRONG 4", Check.told("s4;"), 9, 1, 9, 0);
        weigh("STRONG 30", Check.told("s30;"), 9, 1, 9, 35);
        RopeTrays x = Check.told("s1;");
        x.sees(5, 0);
        weigh("not 4 .. 6", x, 6, 1, 9, 2);
        x.sees(2, 0);
        weigh("7 .. 9", x, 3, 7, 9, 6);
        RopeTrays strong = Check.told("s30;");
        strong.sees(0, 1);
        weigh("nothing is told by 0", strong, 9, 1, 9, 35);
        strong.sees(40, 1);
        weigh("none is heavy enough", strong, 0, NONE, NONE, NONE);
    }

    private static void noWeightCanBe() {
        RopeTrays x = new RopeTrays();
        x.sees(40, 1);
        weigh("none can be", x, 0, NONE, NONE, NONE);
        x.forget();
        weigh("all again", x, 9, 1, 9, 14);
    }
}
