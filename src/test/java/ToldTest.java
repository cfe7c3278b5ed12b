/** Promises 1 to 4: a new object, type, clear, tells. */
public final class ToldTest {
    public static void main(String[] args) {
        aNewObject();
        type();
        clear();
        tellsAll();
        tellsAnew();
        blanks();
        faults();
        fullTexts();
        faultsChangeNothing();
        Checks.end();
    }

    private static void aNewObject() {
        NumberedRings x = new NumberedRings();
        int[] due = {8, 0, 0, 0, 0, 0, 8, 0, 0, 0, 0};
        for (int what = 0; what < due.length; what++) {
            Checks.due("1: count(" + what + ")", x.count(what), due[what]);
        }
        Checks.due("1: maker(0, 0)", x.maker(0, 0), -1);
        Checks.due("1: taker(0, 0)", x.taker(0, 0), -1);
        Checks.due("1: tells()", x.tells(), 0);
    }

    private static void type() {
        NumberedRings x = new NumberedRings();
        Checks.due("2: type(-1)", x.type(-1), -1);
        Checks.due("2: type(256)", x.type(256), -1);
        Checks.due("2: type(min)", x.type(Integer.MIN_VALUE), -1);
        Checks.due("2: type(max)", x.type(Integer.MAX_VALUE), -1);
        Checks.due("2: type(0)", x.type(0), 1);
        Checks.due("2: type(255)", x.type(255), 2);
        for (int n = 3; n <= 120; n++) {
            Checks.due("2: type(97) as letter " + n, x.type(97), n);
        }
        Checks.due("2: type(97), 120 are there", x.type(97), -3);
        Checks.due("2: type(256), 120 are there", x.type(256), -1);
        Checks.due("2: count(9)", x.count(9), 120);
        Checks.due("2: clear()", x.clear(), 120);
        Checks.due("2: type(97) again", x.type(97), 1);
    }

    private static void clear() {
        NumberedRings x = new NumberedRings();
        Checks.due("3: clear() of none", x.clear(), 0);
        Checks.typeAll(x, "maker");
        Checks.due("3: clear()", x.clear(), 5);
        Checks.due("3: count(9)", x.count(9), 0);
        Checks.due("3: clear() again", x.clear(), 0);
        Checks.due("3: tells()", x.tells(), 0);
    }

    private static void tellsAll() {
        String all = "taker 9 0;taker1 1;maker 0;slots 16;maker9;taker 3 3;taker 4 7;maker 5;taker 5 15;taker 6 31;";
        NumberedRings x = Checks.told(all);
        Checks.due("4: count(9)", x.count(9), 0);
        Checks.due("4: slots", x.count(0), 16);
        Checks.due("4: makers", x.count(1), 3);
        Checks.due("4: takers", x.count(2), 6);
        int[] rates = {0, 9, 5};
        int[] speeds = {9, 1, 3, 4, 5, 6};
        int[] sets = {0, 1, 3, 7, 15, 31};
        for (int m = 0; m < 3; m++) {
            Checks.due("4: rate of " + m, x.maker(m, 0), rates[m]);
        }
        for (int t = 0; t < 6; t++) {
            Checks.due("4: speed of " + t, x.taker(t, 0), speeds[t]);
            Checks.due("4: behind of " + t, x.taker(t, 1), sets[t]);
        }
        Checks.due("4: slots 2", Checks.told("slots 2;").count(0), 2);
    }

    private static void tellsAnew() {
        NumberedRings x = Checks.told("slots 3;maker 1;taker 1 0;");
        x.claims(0, 2);
        x.fills(0, 4);
        x.takes(0, 1);
        x.claims(0, 9);
        x.sees(0, 1);
        x.keep(0);
        x.keep(1);
        Checks.typeAll(x, "taker 2 0;maker 7;");
        Checks.due("4: tells() anew", x.tells(), 2);
        int[] due = {8, 1, 1, 0, 0, 0, 8, 0, 0, 0, 0};
        for (int what = 0; what < due.length; what++) {
            Checks.due("4: count(" + what + ") anew", x.count(what), due[what]);
        }
        Checks.due("4: wants anew", x.maker(0, 1), 0);
        Checks.due("4: place anew", x.maker(0, 2), -9);
        for (int what = 2; what <= 6; what++) {
            Checks.due("4: taker(0, " + what + ") anew", x.taker(0, what), 0);
        }
        Checks.due("4: event(0, 0) anew", x.event(0, 0), -1);
        Checks.due("4: back(0) anew", x.back(0), -2);
        Checks.due("4: back(1) anew", x.back(1), -2);
        Checks.due("4: undo() anew", x.undo(), -2);
        Checks.due("4: an empty text", x.tells(), 0);
        Checks.due("4: no makers by an empty text", x.count(1), 0);
        Checks.due("4: no takers by an empty text", x.count(2), 0);
    }

    private static void blanks() {
        NumberedRings x = Checks.told("   taker   1   0  ;  slots2;maker 3 ;   ");
        Checks.due("4: slots by blanks", x.count(0), 2);
        Checks.typeAll(x, "    ");
        Checks.due("4: blanks alone", x.tells(), 0);
        Checks.due("4: slots by blanks alone", x.count(0), 8);
    }

    private static void faults() {
        fault("slots 1;", 6);
        fault("slots 17;", 6);
        fault("slots 100;", 6);
        fault("slots 04;", 6);
        fault("slots 00;", 6);
        fault("slots 4294967300;", 6);
        fault("slots 99999999999999999999999999999999999;", 6);
        fault("slots 4;slots 4;", 8);
        fault("slots 4 5;", 8);
        fault("slots;", 5);
        fault("slots slots", 6);
        fault("slots maker 1;", 6);
        fault("slot 4;", 0);
        fault("slotss 4;", 0);
        fault("slotsz 4;", 0);
        fault("slotsa 4;", 0);
        fault("slots{4;", 5);
        fault("slots`4;", 5);
        fault("slots/4;", 5);
        fault("slots:4;", 5);
        fault("slotsA4;", 5);
        fault("Slots 4;", 0);
        fault("slots\t4;", 5);
        fault("slots -4;", 6);
        fault("slots 4:", 7);
        fault("maker 1,", 7);
        fault("taker x 0;", 6);
        fault("taker 0 0;x", 6);
        fault(";", 0);
        fault("maker 1;;", 8);
        fault("4;", 0);
        fault("maker 10;", 6);
        fault("maker 1;maker 2;maker 3; maker 4;", 25);
        fault("maker 1;maker 2;maker 3;maker", 24);
        fault("taker 0 0;", 6);
        fault("taker 10 0;", 6);
        fault("taker 1;", 7);
        fault("taker 1 1;", 8);
        fault("taker 1 0;taker 1 2;", 18);
        fault("taker 1 0;taker 1 3;", 18);
        fault("taker 1 0;taker 1 00;", 18);
        fault("taker 1 0 maker 1;", 10);
        fault("taker 1 0;taker 1 0;taker 1 0;taker 1 0;taker 1 0;taker 1 32;", 58);
        fault("taker 1 0;taker 1 0;taker 1 0;taker 1 0;taker 1 0;taker 1 0;taker 1 0;", 60);
        fault("maker 1; " + (char) 233, 9);
        fault("maker 1; " + (char) 0, 9);
        fault("maker 1", 7);
        fault("maker 1  ", 9);
        fault("maker", 5);
        fault("maker ", 6);
        fault("taker 1", 7);
        fault("taker 1 0", 9);
        fault("make", 0);
        fault("maker 1;m", 8);
    }

    private static void fault(String text, int place) {
        NumberedRings x = new NumberedRings();
        Checks.typeAll(x, text);
        Checks.due("4: tells() of \"" + text + "\"", x.tells(), -10 - place);
        Checks.due("4: clear() of \"" + text + "\"", x.clear(), text.length());
    }

    /** Texts of 120 letters, whose last token ends where the room for letters does. */
    private static void fullTexts() {
        String items = "maker 1;taker 1 0;";
        String blanks = " ".repeat(120);
        Checks.told((items + blanks).substring(0, 120));
        Checks.told((blanks + items).substring(items.length()));
        fault((blanks + items + "maker").substring(items.length() + 5), 120);
        fault((blanks + items + "make").substring(items.length() + 4), 116);
        fault((blanks + items + "maker 9").substring(items.length() + 7), 120);
        fault((blanks + items + "maker 99").substring(items.length() + 8), 118);
        fault("a".repeat(120), 0);
        fault("1".repeat(120), 0);
        fault("maker " + "9".repeat(114), 6);
    }

    private static void faultsChangeNothing() {
        NumberedRings x = Checks.told("slots 3;maker 1;taker 2 0;");
        x.claims(0, 2);
        x.claims(0, 2);
        x.sees(1, 2);
        x.keep(1);
        Checks.typeAll(x, "slots 5;maker 2;maker 3;taker 7 0;taker 7 1;x");
        Checks.due("4: a fault", x.tells(), -10 - 44);
        Checks.due("4: the fault again", x.tells(), -10 - 44);
        int[] due = {3, 1, 1, 2, 0, 0, 1, 1, 1, 45, 2};
        for (int what = 0; what < due.length; what++) {
            Checks.due("4: count(" + what + ") behind a fault", x.count(what), due[what]);
        }
        Checks.due("4: rate behind a fault", x.maker(0, 0), 1);
        Checks.due("4: speed behind a fault", x.taker(0, 0), 2);
        Checks.due("4: back(1) behind a fault", x.back(1), 2);
    }
}
