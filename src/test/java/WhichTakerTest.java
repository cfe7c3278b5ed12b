/** Promises 19 to 22: sees, forget, which, look. */
public final class WhichTakerTest {
    public static void main(String[] args) {
        sees();
        forget();
        which();
        whichIsOfNow();
        look();
        lookAmongThose();
        Checks.end();
    }

    private static void sees() {
        NumberedRings x = new NumberedRings();
        Checks.due("19: sees(-1, 0)", x.sees(-1, 0), -1);
        Checks.due("19: sees(61, 0)", x.sees(61, 0), -1);
        Checks.due("19: sees(0, -1)", x.sees(0, -1), -1);
        Checks.due("19: sees(0, 10000)", x.sees(0, 10000), -1);
        Checks.due("19: count(8)", x.count(8), 0);
        for (int i = 1; i <= 6; i++) {
            Checks.due("19: sees(60, 9999)", x.sees(60, 9999), i);
        }
        Checks.due("19: sees(0, 0), six are there", x.sees(0, 0), -3);
        Checks.due("19: sees(61, 0), six are there", x.sees(61, 0), -1);
        Checks.due("19: count(8), six", x.count(8), 6);
    }

    private static void forget() {
        NumberedRings x = Checks.told("maker 1;taker 1 0;");
        Checks.due("20: forget() of none", x.forget(), 0);
        x.sees(0, 5);
        x.sees(0, 6);
        Checks.due("20: which()", x.which(), 0);
        Checks.due("20: forget()", x.forget(), 2);
        Checks.due("20: count(8)", x.count(8), 0);
        Checks.due("20: which() behind it", x.which(), 1);
        Checks.due("20: sees() behind it", x.sees(0, 0), 1);
        Checks.due("20: which() by it", x.which(), 1);
    }

    private static void which() {
        Checks.due("21: no takers", new NumberedRings().which(), 0);
        NumberedRings x = Checks.told("slots 16;maker 4;taker 1 0;taker 2 0;taker 3 0;taker 9 2;");
        Checks.due("21: nothing seen", x.which(), 15);
        x.sees(0, 0);
        Checks.due("21: all at 0", x.which(), 15);
        x.sees(3, 4);
        Checks.due("21: 4 behind 3 ticks", x.which(), 10);
        x.sees(3, 5);
        Checks.due("21: 4 and 5", x.which(), 0);
        x.forget();
        x.sees(3, 6);
        Checks.due("21: 6 behind 3 ticks", x.which(), 4);
        x.sees(2, 3);
        Checks.due("21: and 3 behind 2", x.which(), 4);
        x.sees(60, x.done(60, 2));
        Checks.due("21: and at the end", x.which(), 4);
        x.sees(60, 9999);
        Checks.due("21: and never", x.which(), 0);
    }

    private static void whichIsOfNow() {
        NumberedRings x = Checks.told("maker 1;taker 1 0;taker 1 0;");
        x.claims(0, 2);
        x.fills(0, 0);
        x.sees(0, 1);
        Checks.due("21: none is at 1", x.which(), 0);
        x.takes(1, 1);
        Checks.due("21: taker 1 is at 1 now", x.which(), 2);
        x.undo();
        Checks.due("21: none is at 1 again", x.which(), 0);
    }

    private static void look() {
        Checks.due("22: no takers", new NumberedRings().look(), -9);
        Checks.due("22: one taker", Checks.told("maker 1;taker 1 0;").look(), -9);
        Checks.due("22: two that never part", Checks.told("taker 1 0;taker 1 0;").look(), 0);
        NumberedRings x = Checks.told("slots 16;maker 4;taker 1 0;taker 2 0;");
        Checks.due("22: they part behind the second tick", x.look(), 2);
        NumberedRings three = Checks.told("slots 16;maker 1;maker 4;taker 1 0;taker 1 0;taker 4 0;taker 5 0;");
        // Behind tick 2: 1, 1, 4, 5: two have one done, and never less.
        Checks.due("22: the least of several", three.look(), 2);
        NumberedRings later = Checks.told("slots 16;maker 9;taker 5 0;taker 6 0;taker 9 0;");
        Checks.due("22: all part", later.look(), 2);
        NumberedRings apart = Checks.told("maker 1;taker 1 0;taker 1 0;");
        apart.claims(0, 1);
        apart.gaps(0);
        apart.takes(1, 1);
        Checks.due("22: apart now", apart.look(), 0);
        NumberedRings six = Checks.told("maker 9;taker 1 0;taker 1 0;taker 1 0;taker 1 0;taker 1 0;taker 1 0;");
        Checks.due("22: six that never part", six.look(), 0);
        Checks.due("21: six, nothing seen", six.which(), 63);
        for (int i = 0; i < 6; i++) {
            six.sees(60 - i, six.done(60 - i, 5));
        }
        Checks.due("21: six, six seen", six.which(), 63);
    }

    private static void lookAmongThose() {
        NumberedRings x = Checks.told("slots 16;maker 4;taker 1 0;taker 2 0;taker 3 0;taker 9 2;");
        x.sees(2, 2);
        Checks.due("22: takers 1 and 3", x.which(), 10);
        Checks.due("22: they never part", x.look(), 0);
        x.forget();
        x.sees(2, 3);
        Checks.due("22: one is left", x.look(), -9);
        x.sees(2, 4);
        Checks.due("22: none is left", x.look(), -9);
        x.forget();
        x.sees(1, 0);
        Checks.due("22: all, of which two stay together", x.look(), 2);
    }
}
