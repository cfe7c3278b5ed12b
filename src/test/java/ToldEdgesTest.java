/** The edges that promises 1 to 4 name: the least and the greatest that a text may tell, and each FAULT. */
public final class ToldEdgesTest {
    public static void main(String[] args) {
        slots();
        rates();
        speeds();
        sets();
        makersAtMost();
        takersAtMost();
        slotsOnce();
        noItems();
        lettersAtMost();
        letters();
        blanksNeeded();
        everyLetterAsToken();
        everyLetterBetween();
        zerosAhead();
        numbersTooGreat();
        endsTooEarly();
        theFirstFault();
        aTextToldForgetsAll();
        aTextToldForgetsEvents();
        aFaultForgetsNothing();
        Checks.end();
    }

    /** The answer of tells() to a text on a new object. */
    private static int told(String text) {
        NumberedRings x = new NumberedRings();
        Checks.typeAll(x, text);
        return x.tells();
    }

    private static void good(String text, int items) {
        Checks.due("4: tells() of \"" + text + "\"", told(text), items);
    }

    private static void fault(String text, int place) {
        Checks.due("4: tells() of \"" + text + "\", a fault", told(text), -10 - place);
    }

    /** "SLOTS (2 to 16; 8 at first)" */
    private static void slots() {
        Checks.due("1: SLOTS at first", new NumberedRings().count(0), 8);
        for (int n = 0; n <= 99; n++) {
            NumberedRings x = new NumberedRings();
            Checks.typeAll(x, "slots " + n + ";");
            boolean fits = n >= 2 && n <= 16;
            Checks.due("4: tells() of slots " + n, x.tells(), fits ? 1 : -10 - 6);
            Checks.due("4: SLOTS by slots " + n, x.count(0), fits ? n : 8);
        }
    }

    /** "each with a RATE (0 to 9)" */
    private static void rates() {
        for (int n = 0; n <= 99; n++) {
            NumberedRings x = new NumberedRings();
            Checks.typeAll(x, "maker " + n + ";");
            Checks.due("4: tells() of maker " + n, x.tells(), n <= 9 ? 1 : -10 - 6);
            Checks.due("4: RATE by maker " + n, x.maker(0, 0), n <= 9 ? n : -1);
        }
    }

    /** "each with a SPEED (1 to 9)" */
    private static void speeds() {
        for (int n = 0; n <= 99; n++) {
            NumberedRings x = new NumberedRings();
            Checks.typeAll(x, "taker " + n + " 0;");
            boolean fits = n >= 1 && n <= 9;
            Checks.due("4: tells() of taker " + n, x.tells(), fits ? 1 : -10 - 6);
            Checks.due("4: SPEED by taker " + n, x.taker(0, 0), fits ? n : -1);
        }
    }

    /** "BEHIND a set of TAKERS told ahead of it (none, too)"; "a set with a TAKER that is not told ahead" */
    private static void sets() {
        for (int ahead = 0; ahead < 6; ahead++) {
            for (int set = 0; set <= 99; set++) {
                NumberedRings x = new NumberedRings();
                Checks.typeAll(x, "taker 1 0;".repeat(ahead) + "taker 2 " + set + ";");
                boolean fits = set < 1 << ahead;
                String label = " of set " + set + " behind " + ahead + " takers";
                Checks.due("4: tells()" + label, x.tells(), fits ? ahead + 1 : -10 - 10 * ahead - 8);
                Checks.due("4: BEHIND" + label, x.taker(ahead, 1), fits ? set : -1);
            }
        }
    }

    /** "MAKERS 0, 1, .. (3 at most)"; "a fourth maker" */
    private static void makersAtMost() {
        good("maker 1;", 1);
        good("maker 1;maker 2;", 2);
        good("maker 1;maker 2;maker 3;", 3);
        fault("maker 1;maker 2;maker 3;maker 4;", 24);
        fault("maker 1;maker 2;maker 3;taker 1 0;slots 4;  maker 4;", 44);
        fault("maker 1;maker 2;maker 3;maker x", 24);
        fault("maker 1;maker 2;maker 3;maker", 24);
        NumberedRings x = Checks.told("maker 1;maker 2;maker 3;");
        Checks.due("4: three MAKERS", x.count(1), 3);
        Checks.due("4: RATE of the last", x.maker(2, 0), 3);
        Checks.due("13: no fourth", x.maker(3, 0), -1);
    }

    /** "TAKERS 0, 1, .. (6 at most)"; "a seventh taker" */
    private static void takersAtMost() {
        for (int takers = 0; takers <= 6; takers++) {
            NumberedRings x = Checks.told("taker 9 0;".repeat(takers));
            Checks.due("4: TAKERS", x.count(2), takers);
            Checks.due("12: the last of " + takers, x.taker(takers - 1, 0), takers == 0 ? -1 : 9);
            Checks.due("12: no more than " + takers, x.taker(takers, 0), -1);
        }
        fault("taker 9 0;".repeat(7), 60);
        fault("taker 9 0;".repeat(6) + "maker 1; taker", 69);
    }

    /** "slots N (once at most)"; "slots again" */
    private static void slotsOnce() {
        good("maker 1;slots 5;", 2);
        fault("slots 5;slots 5;", 8);
        fault("slots 5; slots 6;", 9);
        fault("slots 5;maker 1;slots", 16);
        // Again is within one text: the next may tell them.
        NumberedRings x = Checks.told("slots 5;");
        Checks.typeAll(x, "slots 6;");
        Checks.due("4: slots by the next text", x.tells(), 1);
        Checks.due("4: SLOTS by the next text", x.count(0), 6);
    }

    /** "by ITEMS (none, too)" */
    private static void noItems() {
        good("", 0);
        good(" ", 0);
        good(" ".repeat(120), 0);
        fault(";", 0);
        fault(" ;", 1);
    }

    /** "THE TEXT is told letter by letter (120 letters at most)"; "FULL: 120" */
    private static void lettersAtMost() {
        NumberedRings x = new NumberedRings();
        for (int n = 1; n <= 120; n++) {
            Checks.due("2: type(32) as letter " + n, x.type(32), n);
        }
        Checks.due("2: type(32) as letter 121", x.type(32), -3);
        Checks.due("25: letters", x.count(9), 120);
        Checks.due("4: tells() of 120 blanks", x.tells(), 0);
        Checks.due("25: letters of a text told", x.count(9), 0);
        Checks.due("2: type(32) behind it", x.type(32), 1);
        Checks.due("3: clear() of one", x.clear(), 1);
        Checks.due("3: clear() of none", x.clear(), 0);
        String longest = "taker 9 0;".repeat(6) + "maker 1;maker 2;maker 3;slots 16;";
        good(longest + " ".repeat(120 - longest.length()), 10);
        good(" ".repeat(120 - longest.length()) + longest, 10);
        fault(" ".repeat(119) + ";", 119);
        fault(" ".repeat(115) + "maker", 120);
        fault("maker" + " ".repeat(115), 120);
    }

    /** "A letter (0 .. 255)" */
    private static void letters() {
        for (int letter = -3; letter <= 258; letter++) {
            int due = letter >= 0 && letter <= 255 ? 1 : -1;
            Checks.due("2: type(" + letter + ")", new NumberedRings().type(letter), due);
        }
    }

    /** "blanks (32) may stand ahead of, between and behind TOKENS (needed between two words, two NUMBERS alone)" */
    private static void blanksNeeded() {
        good("slots2;maker0;taker9 0;", 3);
        good("  slots  2  ;  maker  0  ;  taker  9  0  ;  ", 3);
        good("maker 1;maker 1;", 2);
        good("taker9 0;taker9 1;", 2);
        fault("makertaker 1;", 0);
        fault("maker taker 1;", 6);
        fault("taker 90;", 6);
        fault("taker 9;", 7);
        fault("sl ots 2;", 0);
        fault("slots 1 6;", 6);
        fault("maker 1 2;", 8);
        fault("maker 1 ; ;", 10);
    }

    /** "of a word that is none of these, of any other letter .. that TOKEN's" */
    private static void everyLetterAsToken() {
        for (int letter = 0; letter <= 255; letter++) {
            String text = "maker 1;" + (char) letter;
            Checks.due("4: tells() with letter " + letter + " behind an item", told(text), letter == 32 ? 1 : -10 - 8);
            text = "maker" + (char) letter;
            int due = letter == 32 ? -10 - 6 : isWordLetter(letter) ? -10 : isRate(letter) ? -10 - 6 : -10 - 5;
            Checks.due("4: tells() with letter " + letter + " behind a word", told(text), due);
        }
    }

    private static void everyLetterBetween() {
        for (int letter = 0; letter <= 255; letter++) {
            int between = told("maker" + (char) letter + "1;");
            int due = letter == 32 ? 1 : isWordLetter(letter) ? -10 : -10 - 5;
            Checks.due("4: tells() with letter " + letter + " behind maker", between, due);
            int behind = told("maker 1" + (char) letter + ";");
            // A figure makes it 10 to 19, which no RATE may be.
            due = letter == 32 ? 1 : letter == ';' ? -10 - 8 : isRate(letter) ? -10 - 6 : -10 - 7;
            Checks.due("4: tells() with letter " + letter + " behind a number", behind, due);
        }
    }

    private static boolean isWordLetter(int letter) {
        return letter >= 97 && letter <= 122;
    }

    private static boolean isRate(int letter) {
        return letter >= 48 && letter <= 57;
    }

    /** "a NUMBER .. with a 0 ahead of others" */
    private static void zerosAhead() {
        good("maker 0;taker 1 0;", 2);
        fault("maker 00;", 6);
        fault("maker 01;", 6);
        fault("maker 09;", 6);
        fault("slots 02;", 6);
        fault("slots 016;", 6);
        fault("taker 01 0;", 6);
        fault("taker 1 00;", 8);
        fault("taker 1 0;taker 1 01;", 18);
    }

    /** "a NUMBER above 99"; "a NUMBER beyond what it may be, too" */
    private static void numbersTooGreat() {
        for (String number : new String[] {"17", "99", "100", "101", "1000", "4294967298", "18446744073709551618"}) {
            fault("slots " + number + ";", 6);
            fault("maker " + number + ";", 6);
            fault("taker " + number + " 0;", 6);
            fault("taker 1 " + number + ";", 8);
            fault("taker 1 0;taker 1 0;taker 1 0;taker 1 0;taker 1 0;taker 1 " + (number.equals("17") ? "32" : number), 58);
        }
        fault("9".repeat(120), 0);
        fault("slots " + "2".repeat(114), 6);
        fault("slots " + "0".repeat(114), 6);
    }

    /** "the text's length, if it ends too early" */
    private static void endsTooEarly() {
        String text = "maker 9;taker 9 0;";
        int[] due = {0, -10, -10, -10, -10, -15, -16, -17, 1, -18, -18, -18, -18, -23, -24, -25, -26, -27, 2};
        for (int n = 0; n <= text.length(); n++) {
            Checks.due("4: tells() of the first " + n + " letters", told(text.substring(0, n)), due[n]);
        }
        fault("slots", 5);
        fault("slots  ", 7);
        fault("slots 2", 7);
        fault("slots 2   ", 10);
        fault("slots 1", 6);
    }

    /** "FAULT: the place of the first letter of the first TOKEN that can't stand there" */
    private static void theFirstFault() {
        fault("slots 1;maker 10;", 6);
        fault("maker 10;slots 1;", 6);
        fault("maker maker A", 6);
        fault("maker A maker", 6);
        fault("maker 1;taker 0 9;", 14);
        fault("maker 1;taker 9 9;", 16);
        fault("4 x", 0);
        fault("x 4", 0);
        fault("   x 4", 3);
        fault("maker; 10", 5);
        fault("maker 1;; x", 8);
    }

    /** "(A text told: as told, what it does not tell as at first; all that 2 tells as at first; nothing SEEN, ..)" */
    private static void aTextToldForgetsAll() {
        for (String text : new String[] {"", "slots 2;", "maker 3;taker 1 0;", "slots 4;maker 9;maker 9;taker 9 0;taker 9 1;"}) {
            Scene plain = new Scene("a new object told \"" + text + "\"").thenTold(text);
            full().copy("a full object told \"" + text + "\"").then(Call.clear()).thenTold(text).sameAs(plain);
        }
    }

    private static void aTextToldForgetsEvents() {
        NumberedRings x = Checks.told("maker 1;maker 2;taker 1 0;");
        x.claims(1, 5);
        for (int number = 0; number < 5; number++) {
            x.fills(number, 90 + number);
        }
        Checks.typeAll(x, "maker 1;taker 1 0;");
        Checks.due("4: tells()", x.tells(), 2);
        Checks.due("6: fills(0, 1), not CLAIMED", x.fills(0, 1), -1);
        Checks.due("5: claims(0, 2)", x.claims(0, 2), 0);
        Checks.due("11: 1 is OPEN", x.event(1, 0), 0);
        Checks.due("11: of maker 0", x.event(1, 1), 0);
        Checks.due("6: fills(1, 2)", x.fills(1, 2), 0);
        Checks.due("7: gaps(0), CURSOR is CLAIMED", x.gaps(0), 2);
        Checks.due("8: takes(0, 16)", x.takes(0, 16), 2);
    }

    /** "-10 less FAULT: nothing changes, THE TEXT stays." */
    private static void aFaultForgetsNothing() {
        for (String text : new String[] {"x", "slots 2;maker 1;maker 1;taker 1 0;taker 1 0;taker 1 0;x", "slots", "taker 1 0;taker 1 2;"}) {
            Scene typed = full().copy("a full object with text \"" + text + "\"").then(Call.clear()).thenTyped(text);
            typed.leaves(Call.tells(), told(text));
        }
    }

    private static Scene full() {
        return new Scene("full").thenTold("slots 5;maker 2;maker 1;taker 2 0;taker 1 1;")
                .then(Call.claims(0, 3), Call.fills(0, 9), Call.fills(2, 8), Call.gaps(1), Call.takes(0, 3),
                        Call.takes(1, 2), Call.keep(0), Call.claims(1, 4), Call.claims(0, 9), Call.keep(1))
                .then(Call.sees(0, 3), Call.sees(1, 5), Call.sees(2, 6), Call.sees(3, 7), Call.sees(4, 8), Call.sees(5, 9));
    }
}
