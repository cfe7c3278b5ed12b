/** What the tests share: it counts answers that are not as due, and tells texts. */
final class Checks {
    private static int wrong = 0;

    private Checks() {
    }

    static void due(String call, long got, long want) {
        if (got != want) {
            wrong++;
            System.out.println(call + " answered " + got + ", due is " + want);
        }
    }

    static void fail(String why) {
        wrong++;
        System.out.println(why);
    }

    static void typeAll(NumberedRings x, String text) {
        for (int i = 0; i < text.length(); i++) {
            due("type " + i + " of \"" + text + "\"", x.type(text.charAt(i)), i + 1);
        }
    }

    /** A new object that has been told a text without a fault. */
    static NumberedRings told(String text) {
        NumberedRings x = new NumberedRings();
        typeAll(x, text);
        int items = (int) text.chars().filter(c -> c == ';').count();
        due("tells() of \"" + text + "\"", x.tells(), items);
        return x;
    }

    static void end() {
        System.out.println(wrong == 0 ? "all answers are as due" : wrong + " answers are not as due");
        if (wrong != 0) {
            System.exit(1);
        }
    }
}
