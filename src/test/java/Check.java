/** What the tests share: answers held against what is due, and texts told to an object. */
final class Check {
    private static int wrong = 0;
    private static int asked = 0;
    private static String about = "";

    private Check() {
    }

    /** A sentence of the document that is told with each answer that is wrong. */
    static void about(String sentence) {
        about = "\"" + sentence + "\": ";
    }

    static void due(String call, long got, long want) {
        asked++;
        if (got != want) {
            wrong++;
            System.out.println(about + call + " answered " + got + ", due is " + want);
        }
    }

    static void holds(String what, boolean does) {
        due(what, does ? 1 : 0, 1);
    }

    /** Ends the test: exit code 1 if an answer was wrong. */
    static void end() {
        System.out.println(asked + " answers, " + wrong + " wrong");
        if (wrong != 0 || asked == 0) {
            System.exit(1);
        }
    }

    static int wrongSoFar() {
        return wrong;
    }

    static void type(RopeTrays x, String text) {
        for (int i = 0; i < text.length(); i++) {
            x.type(text.charAt(i));
        }
    }

    static int tell(RopeTrays x, String text) {
        type(x, text);
        return x.house();
    }

    static RopeTrays told(String text) {
        RopeTrays x = new RopeTrays();
        holds("'" + text + "' is read", tell(x, text) >= 0);
        return x;
    }
}
