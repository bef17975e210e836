/** SEEN, WEIGHTS, TRY of the document's heading 3 and promises 15 to 18, sentence by sentence, on both sides of each boundary. */
public final class HeavyBoundsTest {
    private static final int BAD = RopeTrays.BAD, FULL = RopeTrays.FULL, NONE = RopeTrays.NONE;

    public static void main(String[] args) {
        seen();
        eachAgainst();
        weightsOfAllSeen();
        smallestPart();
        sees();
        forget();
        weights();
        next();
        Check.end();
    }

    private static Run weights(Run run, int many, int least, int greatest) {
        return run.due("weights(0)", many).due("weights(1)", least).due("weights(2)", greatest);
    }

    private static void seen() {
        Document.says("SEEN (6 at most): an unknown THING (WEIGHT 1 .. 9) alone ON a TRAY, v (0 .. 40) ON the other one: PULLED it went (1), or not (0).");
        Run six = Run.anew().due("count(4)", 0);
        for (int many = 1; many <= 6; many++) {
            six.due("sees(14, 1)", many).due("count(4)", many);
        }
        six.due("sees(14, 1)", FULL).due("sees(14, 0)", FULL).due("count(4)", 6);
        weights(Run.anew(), 9, 1, 9);
        Run.anew().beyond("sees(N, 0)", 0, 40).due("sees(0, 0)", 1).due("sees(40, 0)", 2).beyond("sees(N, 1)", 0, 40);
        // By STRONG 0 just the weight that is v itself goes: 0 and 10 are none.
        for (int v = 0; v <= 10; v++) {
            boolean weight = v >= 1 && v <= 9;
            weights(Run.told("s0;").does("sees(" + v + ", 1)"), weight ? 1 : 0, weight ? v : NONE, weight ? v : NONE);
        }
        weights(Run.told("s0;").does("sees(1, 0)"), 8, 2, 9);
        weights(Run.told("s0;").does("sees(9, 0)"), 8, 1, 8);
        // What is ON the trays, and where they are, does not matter: the unknown one is alone.
        Run beside = Run.told("f3;s2;t0 1 2;").does("puts(0, 0)", "pulls(0)", "sees(0, 1)");
        weights(beside, 2, 1, 2);
    }

    /** Those that go are v less STRONG .. v and STRONG, as far as they are 1 .. 9. */
    private static void eachAgainst() {
        for (int strong = 0; strong <= 30; strong++) {
            for (int v = 0; v <= 40; v++) {
                int low = Math.max(1, v - strong), high = Math.min(9, v + strong);
                int go = Math.max(0, high - low + 1);
                RopeTrays x = Check.told("s" + strong + ";");
                x.sees(v, 1);
                String when = "STRONG " + strong + ", v " + v + ": ";
                Check.due(when + "go", x.weights(0), go);
                Check.due(when + "least that goes", x.weights(1), go == 0 ? NONE : low);
                Check.due(when + "greatest that goes", x.weights(2), go == 0 ? NONE : high);
                x.forget();
                x.sees(v, 0);
                Check.due(when + "stay", x.weights(0), 9 - go);
                Check.due(when + "least that stays", x.weights(1), go == 9 ? NONE : go > 0 && low == 1 ? high + 1 : 1);
                Check.due(when + "greatest that stays", x.weights(2), go == 9 ? NONE : go > 0 && high == 9 ? low - 1 : 9);
            }
        }
    }

    private static void weightsOfAllSeen() {
        Document.says("WEIGHTS by which all that was SEEN is so: how many; the least; the greatest; NONE.");
        Run run = weights(Run.told("s2;"), 9, 1, 9);
        weights(run.does("sees(0, 0)"), 7, 3, 9);
        weights(run.does("sees(11, 0)"), 6, 3, 8);
        weights(run.does("sees(6, 0)"), 1, 3, 3);
        weights(run.does("sees(5, 1)"), 1, 3, 3);
        weights(run.does("sees(1, 1)"), 1, 3, 3);
        weights(run.does("sees(1, 0)"), 0, NONE, NONE);
        // The first and the last of six count as those between.
        Run first = Run.told("s0;").does("sees(4, 1)").does(5, "sees(9, 0)");
        weights(first, 1, 4, 4);
        Run last = Run.told("s0;").does(5, "sees(9, 0)").does("sees(4, 1)");
        weights(last, 1, 4, 4);
        // Those that may be need not lie side by side.
        weights(Run.told("s3;").does("sees(5, 0)"), 2, 1, 9);
        weights(Run.told("s4;").does("sees(5, 0)"), 0, NONE, NONE);
    }

    private static void smallestPart() {
        Document.says("TRY: the v by which, going or not, the greater part of these is smallest, of several the least; NONE (one can be at most).");
        Run.told("s30;").due("next()", 35).does("sees(35, 1)").due("next()", 37).does("sees(37, 1)").due("next()", 38);
        Run.told("s30;").does("sees(38, 1)").due("weights(0)", 2).due("next()", 39).does("sees(39, 1)").due("next()", NONE);
        Run.told("s30;").does("sees(39, 0)", "sees(38, 1)").due("weights(0)", 1).due("next()", NONE);
        Run.told("s30;").does("sees(40, 1)").due("weights(0)", 0).due("next()", NONE);
        Run.told("s4;").due("next()", 0);
        Run.told("s5;").due("next()", 0);
        Run.told("s3;").due("next()", 1);
        Run.told("s0;").due("next()", 1).does("sees(1, 0)").due("next()", 2);
        Run two = Run.told("s0;").does(1, "sees(1, 0)", "sees(2, 0)", "sees(3, 0)", "sees(4, 0)", "sees(5, 0)");
        two.due("weights(0)", 4).due("next()", 6).does("sees(6, 0)").due("weights(0)", 3).due("next()", 7);
        Run apart = Run.told("s3;").does("sees(5, 0)").due("weights(0)", 2).due("next()", 0);
        apart.does("sees(0, 1)").due("weights(0)", 1).due("next()", NONE).does("sees(0, 0)").due("weights(0)", 0).due("next()", NONE);
    }

    private static void sees() {
        Document.says("SEEN: how much there is. BAD; FULL.");
        Run run = Run.anew().beyond("sees(N, 0)", 0, 40).beyond("sees(N, 1)", 0, 40).beyond("sees(20, N)", 0, 1);
        run.due("sees(0, 0)", 1).due("sees(0, 1)", 2).due("sees(40, 0)", 3).due("sees(40, 1)", 4).due("sees(9, 1)", 5);
        run.beyond("sees(N, 0)", 0, 40).beyond("sees(0, N)", 0, 1).due("sees(9, 1)", 6).due("sees(9, 1)", FULL);
        run.beyond("sees(N, 0)", 0, 40).beyond("sees(40, N)", 0, 1).due("sees(41, 2)", BAD).due("sees(0, 0)", FULL);
    }

    private static void forget() {
        Document.says("Nothing is SEEN: how much was.");
        Run.anew().due("forget()", 0).due("forget()", 0).due("count(4)", 0);
        Run.anew().does("sees(40, 1)").due("weights(0)", 0).due("forget()", 1).due("weights(0)", 9).due("forget()", 0);
        Run six = Run.anew().does(6, "sees(40, 1)").due("sees(0, 0)", FULL).due("forget()", 6).due("count(4)", 0);
        weights(six.due("next()", 14).due("sees(14, 1)", 1), 5, 5, 9);
    }

    private static void weights() {
        Document.says("WEIGHTS: how many (what = 0), the least (1), the greatest (2); NONE. BAD.");
        weights(Run.anew().within("weights(N)", 0, 2), 9, 1, 9);
        weights(Run.anew().does("sees(14, 1)").within("weights(N)", 0, 2), 5, 5, 9);
        weights(Run.anew().does("sees(18, 1)").within("weights(N)", 0, 2), 1, 9, 9);
        weights(Run.anew().does("sees(19, 1)").within("weights(N)", 0, 2), 0, NONE, NONE);
    }

    private static void next() {
        Document.says("TRY; NONE.");
        Run.anew().due("next()", 14);
        Run.anew().does("sees(17, 1)").due("weights(0)", 2).due("next()", 18);
        Run.anew().does("sees(18, 1)").due("weights(0)", 1).due("next()", NONE);
        Run.anew().does("sees(19, 1)").due("weights(0)", 0).due("next()", NONE);
    }
}
