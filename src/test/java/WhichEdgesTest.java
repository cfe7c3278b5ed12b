/** The edges that promises 19 to 22 name: six SEEN, 0 and 60 TICKS, none or one that it can be, of several the least. */
public final class WhichEdgesTest {
    public static void main(String[] args) {
        ticksSeen();
        doneSeen();
        sixSeen();
        forgetAll();
        whichOfNone();
        whichByNothing();
        whichAtTheEnds();
        whichByAllThatIsSeen();
        whichAsItIsWhenAsked();
        lookForNone();
        lookNow();
        lookWhenTheyPart();
        lookForTheLeastGroup();
        lookLate();
        Checks.end();
    }

    /** "behind t TICKS (0 to 60)" */
    private static void ticksSeen() {
        for (int t = -2; t <= 62; t++) {
            NumberedRings x = new NumberedRings();
            boolean fits = t >= 0 && t <= 60;
            Checks.due("19: sees(" + t + ", 0)", x.sees(t, 0), fits ? 1 : -1);
            Checks.due("25: SEEN by sees(" + t + ", 0)", x.count(8), fits ? 1 : 0);
        }
    }

    /** "has DONE d (0 to 9999)" */
    private static void doneSeen() {
        int[] fit = {0, 1, 999, 1000, 9998, 9999};
        for (int d : fit) {
            Checks.due("19: sees(60, " + d + ")", new NumberedRings().sees(60, d), 1);
        }
        int[] bad = {-2, -1, 10000, 10001, Integer.MIN_VALUE, Integer.MAX_VALUE};
        for (int d : bad) {
            Checks.due("19: sees(60, " + d + ")", new NumberedRings().sees(60, d), -1);
        }
    }

    /** "SEEN (6 at most)"; "FULL: 6" */
    private static void sixSeen() {
        NumberedRings x = Checks.told("maker 1;taker 1 0;taker 1 0;");
        for (int i = 1; i <= 6; i++) {
            // The same again is SEEN again.
            Checks.due("19: sees(0, 0) as " + i, x.sees(0, 0), i);
            Checks.due("25: SEEN", x.count(8), i);
        }
        Checks.due("19: sees(0, 1) as 7", x.sees(0, 1), -3);
        Checks.due("19: sees(0, 0) as 7", x.sees(0, 0), -3);
        Checks.due("19: sees(0, 10000) as 7", x.sees(0, 10000), -1);
        Checks.due("19: sees(61, 0) as 7", x.sees(61, 0), -1);
        Checks.due("25: SEEN, six", x.count(8), 6);
        Checks.due("21: which(), the seventh was not SEEN", x.which(), 3);
    }

    /** "Nothing is SEEN: how much was." */
    private static void forgetAll() {
        for (int n = 0; n <= 6; n++) {
            NumberedRings x = Checks.told("maker 1;taker 1 0;");
            for (int i = 0; i < n; i++) {
                x.sees(0, 1);
            }
            Checks.due("21: which() of " + n, x.which(), n == 0 ? 1 : 0);
            Checks.due("20: forget() of " + n, x.forget(), n);
            Checks.due("20: forget() again", x.forget(), 0);
            Checks.due("21: which() behind it", x.which(), 1);
            for (int i = 1; i <= 6; i++) {
                Checks.due("19: sees(0, 0) behind forget()", x.sees(0, 0), i);
            }
            Checks.due("19: sees(0, 0), six again", x.sees(0, 0), -3);
            Checks.due("21: which() of six anew", x.which(), 1);
        }
    }

    private static void whichOfNone() {
        NumberedRings x = new NumberedRings();
        Checks.due("21: which(), no takers", x.which(), 0);
        x.sees(0, 0);
        Checks.due("21: which(), no takers, one SEEN", x.which(), 0);
        Checks.due("22: look(), no takers", x.look(), -9);
    }

    /** "WHICH: TAKERS (bits) of which all that was SEEN is so" */
    private static void whichByNothing() {
        for (int takers = 0; takers <= 6; takers++) {
            NumberedRings x = Checks.told("maker 2;" + "taker 1 0;".repeat(takers));
            Checks.due("21: which() of " + takers + ", nothing SEEN", x.which(), (1 << takers) - 1);
            x.sees(60, x.done(60, 0) == -1 ? 0 : x.done(60, 0));
            Checks.due("21: which() of " + takers + ", all alike", x.which(), (1 << takers) - 1);
            x.sees(60, 9999);
            Checks.due("21: which() of " + takers + ", 9999 is none's", x.which(), 0);
        }
    }

    private static void whichAtTheEnds() {
        for (int t = 0; t <= 8; t++) {
            NumberedRings x = Checks.told("slots 16;maker 0;maker 0;taker 1 0;taker 2 0;");
            x.claims(0, 9);
            x.claims(1, 7);
            for (int d = 0; d <= 16; d++) {
                x.forget();
                x.sees(t, d);
                int due = (d == t ? 1 : 0) | (d == 2 * t ? 2 : 0);
                Checks.due("21: which() by sees(" + t + ", " + d + ")", x.which(), due);
            }
        }
        NumberedRings y = Checks.told("slots 16;maker 0;maker 0;taker 1 0;taker 2 0;");
        y.claims(0, 9);
        y.sees(60, 9);
        Checks.due("21: which() by sees(60, 9)", y.which(), 3);
        y.sees(60, 8);
        Checks.due("21: which() by sees(60, 8), too", y.which(), 0);
        y.forget();
        y.sees(0, 0);
        y.sees(60, 9);
        Checks.due("21: which() by both ends", y.which(), 3);
        y.sees(4, 8);
        Checks.due("21: which() by one between", y.which(), 2);
        y.sees(8, 8);
        Checks.due("21: which(), SPEED 1 alone has 8 behind 8 TICKS", y.which(), 0);
    }

    private static void whichByAllThatIsSeen() {
        NumberedRings x = Checks.told("slots 16;maker 0;taker 1 0;taker 2 0;taker 3 0;taker 4 0;taker 5 0;taker 6 0;");
        x.claims(0, 9);
        for (int t = 0; t < 6; t++) {
            x.forget();
            x.sees(1, t + 1);
            Checks.due("21: which() by SPEED " + (t + 1), x.which(), 1 << t);
        }
        // Each of six counts, the first as the last.
        for (int wrong = 0; wrong < 6; wrong++) {
            x.forget();
            for (int i = 0; i < 6; i++) {
                x.sees(0, i == wrong ? 1 : 0);
            }
            Checks.due("21: which(), number " + wrong + " of six is not so", x.which(), 0);
        }
    }

    /** "by all as it is when WHICH, LOOK are asked" */
    private static void whichAsItIsWhenAsked() {
        NumberedRings x = Checks.told("maker 0;taker 1 0;taker 1 0;");
        x.sees(1, 1);
        Checks.due("21: which(), nothing CLAIMED", x.which(), 0);
        Checks.due("22: look(), none it can be", x.look(), -9);
        x.claims(0, 2);
        Checks.due("21: which(), two CLAIMED", x.which(), 3);
        Checks.due("22: look(), two it can be", x.look(), 0);
        x.fills(0, 0);
        x.takes(0, 1);
        Checks.due("21: which(), taker 0 is one further", x.which(), 2);
        Checks.due("22: look(), one it can be", x.look(), -9);
        x.keep(0);
        x.undo();
        Checks.due("21: which() behind undo()", x.which(), 3);
        x.back(0);
        Checks.due("21: which() behind back()", x.which(), 2);
    }

    /** "NONE (one can be at most)" */
    private static void lookForNone() {
        NumberedRings x = Checks.told("maker 1;taker 1 0;");
        Checks.due("22: look(), one taker", x.look(), -9);
        NumberedRings two = Checks.told("slots 16;maker 0;taker 1 0;taker 2 0;");
        two.claims(0, 4);
        Checks.due("22: look(), two", two.look(), 1);
        two.sees(1, 1);
        Checks.due("22: look(), one of two", two.look(), -9);
        two.sees(1, 2);
        Checks.due("22: look(), none of two", two.look(), -9);
    }

    /** "the t (0 to 60)": 0, if they are apart now, or never are. */
    private static void lookNow() {
        NumberedRings apart = Checks.told("slots 16;maker 0;taker 1 0;taker 1 0;taker 1 0;");
        apart.claims(0, 3);
        for (int number = 0; number < 3; number++) {
            apart.gaps(number);
        }
        Checks.due("22: look(), three together for ever", apart.look(), 0);
        apart.takes(0, 2);
        Checks.due("22: look(), two of them together", apart.look(), 0);
        apart.takes(1, 1);
        Checks.due("22: look(), all apart", apart.look(), 0);
    }

    /** "of several the least" */
    private static void lookWhenTheyPart() {
        NumberedRings x = Checks.told("slots 16;maker 0;taker 8 0;taker 9 0;");
        x.claims(0, 9);
        Checks.due("22: look(), apart behind the first TICK alone", x.look(), 1);
        x.gaps(0);
        Checks.due("22: look(), as well", x.look(), 1);
        x.takes(0, 1);
        Checks.due("22: look(), apart now and never again", x.look(), 0);
        x.takes(1, 1);
        Checks.due("22: look(), never apart with 8 left", x.look(), 0);
    }

    /** "the greatest number of these that have one DONE is least" */
    private static void lookForTheLeastGroup() {
        // Behind 1 TICK: 2, 3, 3, 3; behind 2: 4, 6, 6, 6; 3: 6, 9, 9, 9.
        NumberedRings three = Checks.told("slots 16;maker 0;taker 2 0;taker 3 0;taker 3 0;taker 3 0;");
        three.claims(0, 9);
        Checks.due("22: look(), three of four together at least", three.look(), 1);
        // Behind 1 TICK: 1, 4, 4, 5; behind 2: 2, 8, 8, 9; behind 3: 3, 9, 9, 9.
        NumberedRings two = Checks.told("slots 16;maker 0;taker 1 0;taker 4 0;taker 4 0;taker 5 0;");
        two.claims(0, 9);
        Checks.due("22: look(), two of four together at least", two.look(), 1);
        // Taker 2 is one further at first. Behind 1 TICK: 2, 4, 2; behind 2: 4, 8, 3; all apart.
        NumberedRings later = Checks.told("slots 16;maker 0;taker 2 0;taker 4 0;taker 1 0;");
        later.claims(0, 9);
        later.gaps(0);
        later.takes(2, 1);
        Checks.due("22: look(), two together behind one TICK, none behind two", later.look(), 2);
        // Two pairs have a greatest number of 2, as one pair and two alone have.
        NumberedRings pairs = Checks.told("slots 16;maker 0;taker 1 0;taker 1 0;taker 2 0;taker 2 0;");
        pairs.claims(0, 9);
        Checks.due("22: look(), two pairs", pairs.look(), 1);
        // Five of six together are less than six.
        NumberedRings five = Checks.told("slots 16;maker 0;" + "taker 9 0;".repeat(5) + "taker 8 0;");
        Checks.due("22: look(), six together for ever", five.look(), 0);
        five.claims(0, 9);
        Checks.due("22: look(), five of six together at least", five.look(), 1);
        // What was SEEN later does not put off when to look.
        five.sees(60, 9);
        five.sees(0, 0);
        Checks.due("21: which() of six", five.which(), 63);
        Checks.due("22: look(), five of six, seen behind 60 TICKS", five.look(), 1);
        // Those that were ruled out don't count.
        NumberedRings ruled = Checks.told("slots 16;maker 0;taker 1 0;taker 1 0;taker 2 0;taker 3 0;");
        ruled.claims(0, 9);
        ruled.gaps(0);
        ruled.takes(2, 1);
        ruled.takes(3, 1);
        ruled.sees(0, 1);
        Checks.due("21: which(), the two that are further", ruled.which(), 12);
        Checks.due("22: look(), they part behind one TICK", ruled.look(), 1);
    }

    /** The latest LOOK that was found: a taker of SPEED 9 parts from one of SPEED 8 by the first nine at once. */
    private static void lookLate() {
        NumberedRings x = Checks.told("slots 14;maker 8;maker 9;maker 8;taker 9 0;taker 1 1;taker 8 1;");
        x.claims(0, 9);
        x.claims(0, 5);
        for (int number = 0; number < 14; number++) {
            x.gaps(number);
        }
        x.takes(0, 13);
        x.takes(2, 13);
        x.claims(0, 8);
        x.claims(2, 8);
        x.claims(1, 8);
        x.sees(0, 13);
        Checks.due("21: which()", x.which(), 5);
        for (int m = 0; m < 50; m++) {
            Checks.due("18: alike behind " + m, x.done(m, 2), x.done(m, 0));
        }
        Checks.due("18: taker 0 is one further behind 50 TICKS", x.done(50, 0) - x.done(50, 2), 1);
        Checks.due("22: look(), behind 50 TICKS", x.look(), 50);
    }
}
