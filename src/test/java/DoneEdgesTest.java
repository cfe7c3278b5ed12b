/** The edges that promises 5 to 10 name: ROOM to the last number, THE ROW, AT MOST, 999, six that may be UNDONE. */
public final class DoneEdgesTest {
    public static void main(String[] args) {
        claimsFromOneToNine();
        claimsUpToRoom();
        claimsWithNoTakers();
        whoComesLaterWaits();
        waitsOnceAtMost();
        letInAtItsRoom();
        noneOvertakes();
        allThreeAtOnce();
        calledOff();
        upTo999();
        waitingCountsFor999();
        values();
        cursorJumps();
        whatWaitsIsNotClaimed();
        takesFromOneToSixteen();
        takesUpToAtMost();
        atMostIsTheLeast();
        gapsAreGoneOver();
        sumWrapsAround();
        theRingGoesRound();
        sixMayBeUndone();
        undoneRoundAndRound();
        undoneByKind();
        Checks.end();
    }

    private static void fillAll(NumberedRings x) {
        for (int number = x.count(4); number < x.count(3); number++) {
            x.fills(number, 1);
        }
    }

    /** "CLAIMS of a MAKER, n (1 to 9)" */
    private static void claimsFromOneToNine() {
        for (int n = -1; n <= 11; n++) {
            NumberedRings x = Checks.told("slots 16;maker 1;taker 1 0;");
            boolean fits = n >= 1 && n <= 9;
            Checks.due("5: claims(0, " + n + ")", x.claims(0, n), fits ? 0 : -1);
            Checks.due("5: CLAIMED by claims(0, " + n + ")", x.count(3), fits ? n : 0);
            Checks.due("10: to be undone behind claims(0, " + n + ")", x.count(10), fits ? 1 : 0);
        }
    }

    /** "if nobody waits and n is no more than ROOM, n numbers are CLAIMED .. else it waits" */
    private static void claimsUpToRoom() {
        for (int slots = 2; slots <= 16; slots++) {
            for (int first = 1; first <= Math.min(9, slots); first++) {
                for (int n = 1; n <= 9; n++) {
                    NumberedRings x = Checks.told("slots " + slots + ";maker 1;maker 1;taker 1 0;");
                    x.claims(0, first);
                    int room = slots - first;
                    String label = "5: claims(1, " + n + ") with ROOM " + room;
                    Checks.due("25: ROOM", x.count(6), room);
                    Checks.due(label, x.claims(1, n), n <= room ? first : -9);
                    Checks.due(label + ", CLAIMED", x.count(3), n <= room ? first + n : first);
                    Checks.due(label + ", who waits", x.count(7), n <= room ? 0 : 1);
                }
            }
        }
    }

    /** "LEAST: .. CLAIMED, if there are none." */
    private static void claimsWithNoTakers() {
        for (int slots = 2; slots <= 9; slots++) {
            NumberedRings x = Checks.told("slots " + slots + ";maker 1;");
            for (int i = 0; i < 5; i++) {
                Checks.due("5: claims of all the SLOTS, no takers", x.claims(0, slots), i * slots);
                Checks.due("25: LEAST, no takers", x.count(5), (i + 1) * slots);
                Checks.due("25: ROOM, no takers", x.count(6), slots);
            }
            Checks.due("5: claims of more than the SLOTS", x.claims(0, slots + 1), slots == 9 ? -1 : -9);
        }
    }

    /** "if nobody waits .. else it waits at the end of THE ROW" */
    private static void whoComesLaterWaits() {
        NumberedRings x = Checks.told("slots 4;maker 1;maker 1;maker 1;taker 1 0;");
        x.claims(0, 1);
        Checks.due("5: claims(0, 4) with ROOM 3", x.claims(0, 4), -9);
        Checks.due("5: claims(2, 1) would go in, but one waits", x.claims(2, 1), -9);
        Checks.due("5: claims(1, 3) would go in, but two wait", x.claims(1, 3), -9);
        Checks.due("13: place of the first", x.maker(0, 2), 0);
        Checks.due("13: place of the second", x.maker(2, 2), 1);
        Checks.due("13: place of the third", x.maker(1, 2), 2);
        Checks.due("25: ROOM is as it was", x.count(6), 3);
    }

    /** "(a MAKER waits once at most)"; "STATE: it waits already" */
    private static void waitsOnceAtMost() {
        NumberedRings x = Checks.told("slots 2;maker 1;taker 1 0;");
        Checks.due("5: claims(0, 3)", x.claims(0, 3), -9);
        for (int n = 1; n <= 9; n++) {
            Checks.due("5: claims(0, " + n + "), it waits already", x.claims(0, n), -2);
        }
        Checks.due("13: it waits for 3 yet", x.maker(0, 1), 3);
        Checks.due("9: calls(0)", x.calls(0), 3);
        Checks.due("5: claims(0, 2) now", x.claims(0, 2), 0);
        Checks.due("5: claims(0, 1) waits anew", x.claims(0, 1), -9);
    }

    /** "Whenever ROOM has become more: while the first of THE ROW wants no more than ROOM, it is CLAIMED" */
    private static void letInAtItsRoom() {
        for (int wanted = 1; wanted <= 9; wanted++) {
            NumberedRings x = Checks.told("slots 9;maker 1;maker 1;taker 1 0;taker 1 0;");
            x.claims(0, 9);
            x.claims(1, wanted);
            fillAll(x);
            x.takes(0, 9);
            if (wanted > 1) {
                x.takes(1, wanted - 1);
            }
            Checks.due("8: ROOM is one less than " + wanted, x.count(6), wanted - 1);
            Checks.due("8: it waits for " + wanted + " yet", x.maker(1, 1), wanted);
            Checks.due("8: takes(1, 1)", x.takes(1, 1), 1);
            Checks.due("8: " + wanted + " are let in", x.count(3), 9 + wanted);
            Checks.due("8: it waits no more", x.maker(1, 1), 0);
            Checks.due("8: its place", x.maker(1, 2), -9);
            Checks.due("8: the first of them is its own", x.event(9, 1), 1);
            Checks.due("8: and OPEN", x.event(9, 0), 0);
            Checks.due("8: ROOM is 0 then", x.count(6), 0);
        }
    }

    private static void noneOvertakes() {
        NumberedRings x = Checks.told("slots 4;maker 1;maker 1;maker 1;taker 1 0;");
        x.claims(0, 4);
        x.claims(0, 3);
        x.claims(1, 1);
        x.claims(2, 1);
        fillAll(x);
        x.takes(0, 2);
        Checks.due("8: the first wants more than ROOM, nobody goes in", x.count(7), 3);
        x.takes(0, 1);
        Checks.due("8: the first alone goes in", x.count(3), 7);
        Checks.due("13: the second is first now", x.maker(1, 2), 0);
        Checks.due("13: the third is second now", x.maker(2, 2), 1);
        x.takes(0, 1);
        Checks.due("8: the second goes in", x.count(3), 8);
        Checks.due("8: the third waits yet", x.maker(2, 1), 1);
    }

    /** "while the first of THE ROW wants no more than ROOM": a full row goes in by one call, and may wait anew. */
    private static void allThreeAtOnce() {
        NumberedRings x = Checks.told("slots 9;maker 1;maker 1;maker 1;taker 1 0;");
        x.claims(0, 9);
        x.claims(2, 5);
        x.claims(0, 3);
        x.claims(1, 1);
        fillAll(x);
        Checks.due("8: takes(0, 4)", x.takes(0, 4), 4);
        Checks.due("8: all three wait yet", x.count(7), 3);
        Checks.due("8: takes(0, 16)", x.takes(0, 16), 5);
        Checks.due("8: nobody waits", x.count(7), 0);
        Checks.due("8: CLAIMED", x.count(3), 18);
        int[] due = {2, 2, 2, 2, 2, 0, 0, 0, 1};
        for (int i = 0; i < 9; i++) {
            Checks.due("8: MAKER of " + (9 + i), x.event(9 + i, 1), due[i]);
        }
        for (int maker = 0; maker < 3; maker++) {
            Checks.due("5: claims(" + maker + ", 1) waits anew", x.claims(maker, 1), -9);
            Checks.due("13: at its place", x.maker(maker, 2), maker);
        }
    }

    /** "CALLED OFF (a MAKER waits no more)"; "(So too behind CALLED OFF.)" */
    private static void calledOff() {
        for (int called = 0; called < 3; called++) {
            NumberedRings x = Checks.told("slots 4;maker 1;maker 1;maker 1;taker 1 0;");
            x.claims(0, 2);
            x.claims(0, 9);
            x.claims(1, 2);
            x.claims(2, 1);
            Checks.due("9: calls(" + called + ")", x.calls(called), new int[] {9, 2, 1}[called]);
            // Behind the first, the second goes in to the last of ROOM; the third waits yet.
            Checks.due("9: CLAIMED behind calls(" + called + ")", x.count(3), called == 0 ? 4 : 2);
            Checks.due("9: who waits behind calls(" + called + ")", x.count(7), called == 0 ? 1 : 2);
            Checks.due("9: calls(" + called + ") again", x.calls(called), -2);
            Checks.due("13: its place", x.maker(called, 2), -9);
        }
        NumberedRings tooMuch = Checks.told("slots 4;maker 1;maker 1;maker 1;taker 1 0;");
        tooMuch.claims(0, 5);
        tooMuch.claims(1, 9);
        tooMuch.claims(2, 1);
        Checks.due("9: calls(0), the next wants too much", tooMuch.calls(0), 5);
        Checks.due("9: nobody goes in", tooMuch.count(3), 0);
        Checks.due("9: calls(1)", tooMuch.calls(1), 9);
        Checks.due("9: the last goes in", tooMuch.count(3), 1);
        Checks.due("9: nobody waits", tooMuch.count(7), 0);
        NumberedRings noTakers = Checks.told("slots 4;maker 1;maker 1;maker 1;");
        noTakers.claims(2, 5);
        noTakers.claims(1, 4);
        noTakers.claims(0, 4);
        Checks.due("9: calls(2), no takers", noTakers.calls(2), 5);
        Checks.due("9: both go in, for ROOM is always all the SLOTS", noTakers.count(3), 8);
    }

    /** "FULL: CLAIMED and all that waits and n, together, would be above 999" */
    private static void upTo999() {
        for (int n = 1; n <= 9; n++) {
            NumberedRings x = Checks.told("slots 9;maker 1;");
            for (int i = 0; i < 110; i++) {
                x.claims(0, 9);
            }
            x.claims(0, 9 - n + 1);
            int left = n - 1;
            Checks.due("5: claims(0, " + n + ") with " + left + " left", x.claims(0, n), -3);
            Checks.due("5: CLAIMED as it was", x.count(3), 999 - left);
            if (left > 0) {
                Checks.due("5: claims(0, " + left + ") of all that is left", x.claims(0, left), 999 - left);
            }
            Checks.due("5: all are CLAIMED", x.count(3), 999);
            Checks.due("11: the last of them", x.event(998, 0), 0);
            Checks.due("11: no more", x.event(999, 0), -1);
            Checks.due("6: fills(999, 0)", x.fills(999, 0), -1);
            Checks.due("7: gaps(999)", x.gaps(999), -1);
            Checks.due("7: gaps(998)", x.gaps(998), 0);
            Checks.due("10: undo() of it", x.undo(), 5);
            Checks.due("10: undo() of the last claim", x.undo(), 4);
            Checks.due("5: claims(0, 1) goes in again", x.claims(0, 1), left > 0 ? 999 - left : 990);
        }
    }

    private static void waitingCountsFor999() {
        NumberedRings y = Checks.told("slots 8;maker 1;maker 1;maker 1;");
        for (int i = 0; i < 122; i++) {
            y.claims(0, 8);
        }
        Checks.due("5: 976 are CLAIMED", y.count(3), 976);
        Checks.due("5: claims(2, 9) waits", y.claims(2, 9), -9);
        Checks.due("5: claims(0, 9) waits", y.claims(0, 9), -9);
        Checks.due("5: claims(1, 6), 1000 together", y.claims(1, 6), -3);
        Checks.due("5: claims(1, 9), 1003 together", y.claims(1, 9), -3);
        Checks.due("5: claims(1, 5), 999 together", y.claims(1, 5), -9);
        Checks.due("9: calls(2)", y.calls(2), 9);
        Checks.due("5: claims(2, 9) again, 999 together", y.claims(2, 9), -9);
        Checks.due("9: calls(0)", y.calls(0), 9);
        Checks.due("9: the 5 go in", y.count(3), 981);
        Checks.due("5: claims(1, 9), 999 together", y.claims(1, 9), -9);
        Checks.due("5: claims(0, 1), 1000 together", y.claims(0, 1), -3);
    }

    /** "FULL, with a VALUE (0 to 99)" */
    private static void values() {
        for (int v = -2; v <= 101; v++) {
            NumberedRings x = Checks.told("maker 1;");
            x.claims(0, 1);
            boolean fits = v >= 0 && v <= 99;
            Checks.due("6: fills(0, " + v + ")", x.fills(0, v), fits ? 1 : -1);
            Checks.due("11: VALUE by fills(0, " + v + ")", x.event(0, 2), fits ? v : -9);
            Checks.due("11: what it is by fills(0, " + v + ")", x.event(0, 0), fits ? 1 : 0);
            // Refused as not OPEN only if the value is as told.
            Checks.due("6: fills(0, " + v + ") again", x.fills(0, v), fits ? -2 : -1);
        }
    }

    /** "CURSOR: the lowest number that is OPEN or not CLAIMED" */
    private static void cursorJumps() {
        NumberedRings x = Checks.told("slots 16;maker 1;maker 1;");
        Checks.due("25: CURSOR, nothing CLAIMED", x.count(4), 0);
        x.claims(0, 8);
        x.claims(1, 8);
        for (int number = 15; number > 0; number--) {
            Checks.due("6, 7: CURSOR stays at 0", number % 3 == 0 ? x.gaps(number) : x.fills(number, number), 0);
        }
        Checks.due("6: CURSOR goes to CLAIMED at once", x.fills(0, 0), 16);
        Checks.due("5: claims behind it", x.claims(1, 2), 16);
        Checks.due("25: CURSOR is the new OPEN one", x.count(4), 16);
        Checks.due("7: gaps(17)", x.gaps(17), 16);
        Checks.due("7: gaps(16)", x.gaps(16), 18);
        Checks.due("7: gaps(18), not CLAIMED", x.gaps(18), -1);
        Checks.due("7: gaps(16) again", x.gaps(16), -2);
        Checks.due("6: fills(16, 1) of a GAP", x.fills(16, 1), -2);
    }

    /** "BAD (no such number is CLAIMED)": what is waited for is not. */
    private static void whatWaitsIsNotClaimed() {
        NumberedRings x = Checks.told("slots 2;maker 1;taker 1 0;");
        x.claims(0, 2);
        x.claims(0, 1);
        Checks.due("6: fills(2, 1) of one that is waited for", x.fills(2, 1), -1);
        Checks.due("7: gaps(2) of one that is waited for", x.gaps(2), -1);
        Checks.due("11: event(2, 0) of one that is waited for", x.event(2, 0), -1);
        x.fills(0, 1);
        x.takes(0, 1);
        Checks.due("6: fills(2, 1), let in", x.fills(2, 1), 1);
        x.undo();
        x.undo();
        Checks.due("6: fills(2, 1), let in by what was undone", x.fills(2, 1), -1);
    }

    /** "TAKES of a TAKER, n (1 to 16)" */
    private static void takesFromOneToSixteen() {
        for (int n = -1; n <= 18; n++) {
            NumberedRings x = Checks.told("slots 16;maker 1;taker 1 0;taker 1 0;");
            x.claims(0, 9);
            x.claims(0, 7);
            fillAll(x);
            boolean fits = n >= 1 && n <= 16;
            Checks.due("8: takes(0, " + n + ") of 16", x.takes(0, n), fits ? n : -1);
            Checks.due("8: DONE by takes(0, " + n + ")", x.taker(0, 2), fits ? n : 0);
            Checks.due("8: COUNT by takes(0, " + n + ")", x.taker(0, 5), fits ? n : 0);
        }
    }

    /** "it goes over numbers, from its DONE on, n at most, ahead of AT MOST"; "STATE: none is ahead of AT MOST" */
    private static void takesUpToAtMost() {
        for (int ready = 0; ready <= 9; ready++) {
            for (int n = 1; n <= 16; n++) {
                NumberedRings x = Checks.told("slots 16;maker 1;taker 1 0;");
                x.claims(0, 9);
                for (int number = 0; number < ready; number++) {
                    x.fills(number, 0);
                }
                // One that is told behind an OPEN one is not ahead of CURSOR.
                x.fills(ready + 1, 0);
                int due = ready == 0 ? -2 : Math.min(ready, n);
                Checks.due("8: takes(0, " + n + ") with " + ready + " ahead of CURSOR", x.takes(0, n), due);
                Checks.due("8: takes(0, 16) of the others", x.takes(0, 16), ready > n ? ready - n : -2);
            }
        }
    }

    /** "AT MOST of it: the least DONE of those it is BEHIND; CURSOR, if it is BEHIND none" */
    private static void atMostIsTheLeast() {
        NumberedRings x = Checks.told("slots 16;maker 1;taker 1 0;taker 1 0;taker 1 3;taker 1 4;taker 1 15;taker 1 0;");
        x.claims(0, 9);
        fillAll(x);
        int[] atFirst = {9, 9, 0, 0, 0, 9};
        for (int t = 0; t < 6; t++) {
            Checks.due("12: AT MOST of " + t + " at first", x.taker(t, 3), atFirst[t]);
        }
        Checks.due("8: takes(2, 1), those ahead have DONE 0", x.takes(2, 1), -2);
        x.takes(0, 5);
        Checks.due("8: takes(2, 1), one of those ahead has DONE 0", x.takes(2, 1), -2);
        x.takes(1, 3);
        Checks.due("8: takes(2, 16), the least is 3", x.takes(2, 16), 3);
        Checks.due("8: takes(2, 1), as far as the least", x.takes(2, 1), -2);
        Checks.due("8: takes(3, 2)", x.takes(3, 2), 2);
        Checks.due("12: AT MOST of 4, the least of four", x.taker(4, 3), 2);
        Checks.due("8: takes(4, 16)", x.takes(4, 16), 2);
        Checks.due("8: takes(5, 16), behind none", x.takes(5, 16), 9);
        Checks.due("25: LEAST of all", x.count(5), 2);
    }

    /** "(COUNT, SUM 0 at first; a GAP: nothing)" */
    private static void gapsAreGoneOver() {
        NumberedRings x = Checks.told("maker 1;taker 1 0;taker 1 0;taker 1 0;");
        x.claims(0, 4);
        Checks.due("12: COUNT at first", x.taker(2, 5), 0);
        Checks.due("12: SUM at first", x.taker(2, 6), 0);
        for (int number = 0; number < 4; number++) {
            x.gaps(number);
        }
        Checks.due("8: takes(2, 16) over gaps alone", x.takes(2, 16), 4);
        Checks.due("12: DONE over gaps alone", x.taker(2, 2), 4);
        Checks.due("12: COUNT over gaps alone", x.taker(2, 5), 0);
        Checks.due("12: SUM over gaps alone", x.taker(2, 6), 0);
        x.claims(0, 3);
        x.gaps(4);
        x.fills(5, 0);
        x.gaps(6);
        Checks.due("8: takes(2, 16) over one between gaps", x.takes(2, 16), 3);
        Checks.due("12: COUNT of one", x.taker(2, 5), 1);
        Checks.due("12: SUM of VALUE 0 is the taker's number", x.taker(2, 6), 2);
        Checks.due("8: takes(0, 16)", x.takes(0, 16), 7);
        Checks.due("12: COUNT of taker 0", x.taker(0, 5), 1);
        Checks.due("12: SUM of taker 0, VALUE 0", x.taker(0, 6), 0);
    }

    /** "SUM of it becomes 31 times SUM and the VALUE and its number among TAKERS, together, left over by 9973" */
    private static void sumWrapsAround() {
        // 31 times (31 times 10 and 11) is 9951.
        sum(new int[] {10, 11, 21}, 0, 9972);
        sum(new int[] {10, 11, 22}, 0, 0);
        sum(new int[] {10, 11, 23}, 0, 1);
        // Taker 1: 11, 12 beyond are as 10, 11 of taker 0.
        sum(new int[] {9, 10, 20}, 1, 9972);
        sum(new int[] {9, 10, 21}, 1, 0);
        sum(new int[] {9, 10, 22}, 1, 1);
        sum(new int[] {99}, 5, 104);
        sum(new int[] {0}, 5, 5);
        sum(new int[] {99, 99, 99, 99, 99, 99, 99, 99}, 5, 2512);
    }

    private static void sum(int[] values, int taker, int due) {
        NumberedRings x = Checks.told("maker 1;taker 1 0;taker 1 0;taker 1 0;taker 1 0;taker 1 0;taker 1 0;");
        x.claims(0, values.length);
        for (int number = 0; number < values.length; number++) {
            x.fills(number, values[number]);
        }
        x.takes(taker, 16);
        Checks.due("12: SUM of taker " + taker + " of " + values.length + " values", x.taker(taker, 6), due);
        Checks.due("12: COUNT of taker " + taker, x.taker(taker, 5), values.length);
    }

    /** A ring of two slots, gone round many times: numbers go on, and what was is still told. */
    private static void theRingGoesRound() {
        NumberedRings x = Checks.told("slots 2;maker 1;taker 1 0;taker 1 1;");
        for (int i = 0; i < 70; i++) {
            Checks.due("5: claims(0, 1), round and round", x.claims(0, 1), i);
            Checks.due("6: fills(" + i + ")", x.fills(i, i), i + 1);
            Checks.due("8: takes(0, 1)", x.takes(0, 1), 1);
            Checks.due("8: takes(1, 1)", x.takes(1, 1), 1);
        }
        Checks.due("11: VALUE of 0, 35 times round", x.event(0, 2), 0);
        Checks.due("11: VALUE of 33", x.event(33, 2), 33);
        Checks.due("25: ROOM", x.count(6), 2);
        Checks.due("5: claims(0, 2)", x.claims(0, 2), 70);
        Checks.due("5: claims(0, 1), nobody laps the slowest", x.claims(0, 1), -9);
    }

    /** "(6 are known, older ones are lost)"; "UNDONE: how many more may be. STATE: none." */
    private static void sixMayBeUndone() {
        for (int made = 0; made <= 9; made++) {
            NumberedRings x = Checks.told("slots 16;maker 1;");
            for (int i = 0; i < made; i++) {
                x.claims(0, 1);
            }
            int known = Math.min(made, 6);
            Checks.due("25: may be UNDONE behind " + made + " calls", x.count(10), known);
            for (int i = 1; i <= known; i++) {
                Checks.due("10: undo() behind " + made + " calls", x.undo(), known - i);
                Checks.due("10: CLAIMED behind it", x.count(3), made - i);
            }
            Checks.due("10: undo() of none", x.undo(), -2);
            Checks.due("10: CLAIMED as it was", x.count(3), made - known);
            Checks.due("25: none may be UNDONE", x.count(10), 0);
        }
    }

    private static void undoneRoundAndRound() {
        NumberedRings x = Checks.told("slots 16;maker 1;");
        int claimed = 0;
        for (int round = 0; round < 20; round++) {
            for (int i = 0; i < 4; i++) {
                Checks.due("5: claims(0, 1)", x.claims(0, 1), claimed);
                claimed++;
            }
            for (int i = 0; i < 3; i++) {
                // One more stays known each round, until there are six with the four of this one.
                Checks.due("10: undo(), round " + round, x.undo(), Math.min(round + 4, 6) - 1 - i);
                claimed--;
            }
            Checks.due("10: CLAIMED, round " + round, x.count(3), claimed);
        }
    }

    /** "the latest claims(), fills(), gaps(), takes(), calls() that was not refused: all that 2 tells is as ahead of it" */
    private static void undoneByKind() {
        Scene scene = new Scene("a row of two").thenTold("slots 4;maker 1;maker 2;maker 3;taker 1 0;taker 2 1;")
                .then(Call.claims(0, 4), Call.fills(0, 7), Call.gaps(1), Call.fills(2, 70), Call.takes(0, 3),
                        Call.takes(1, 1), Call.keep(0), Call.claims(1, 3), Call.claims(2, 1));
        Call[] each = {Call.claims(0, 9), Call.fills(3, 0), Call.gaps(3), Call.takes(1, 1), Call.takes(1, 16),
            Call.calls(1), Call.calls(2)};
        for (Call call : each) {
            // The oldest is lost by the call, so that all but the last view by undo() is compared.
            NumberedRings plain = scene.played();
            NumberedRings undone = scene.copy("undone").then(call, Call.undo()).played();
            Checks.due("25: one less may be UNDONE behind " + call.name(), undone.count(10), plain.count(10) - 1);
            for (int i = 0; i <= 5; i++) {
                sameNow("10: undo() of " + call.name() + ", " + i + " times more", plain, undone);
                plain.undo();
                undone.undo();
            }
            Checks.due("24: back(0) behind it", undone.back(0), 4);
        }
        Scene refused = scene.copy("with refused calls").then(Call.claims(0, 10), Call.claims(1, 1), Call.fills(3, 100),
                Call.fills(0, 1), Call.gaps(0), Call.gaps(4), Call.takes(0, 1), Call.takes(1, 17), Call.calls(0), Call.calls(3));
        refused.sameAs(scene);
        // undo() is none of those that can be UNDONE.
        NumberedRings x = scene.played();
        Checks.due("10: undo()", x.undo(), 5);
        Checks.due("10: maker 2 waits no more", x.maker(2, 1), 0);
        Checks.due("10: undo() once more", x.undo(), 4);
        Checks.due("10: maker 1 waits no more, too", x.maker(1, 1), 0);
    }

    private static void sameNow(String label, NumberedRings plain, NumberedRings undone) {
        for (int what = 0; what <= 9; what++) {
            Checks.due(label + ", count(" + what + ")", undone.count(what), plain.count(what));
        }
        for (int i = 0; i < 3; i++) {
            for (int what = 0; what <= 6; what++) {
                Checks.due(label + ", maker(" + i + ", " + what + ")", undone.maker(i, what), plain.maker(i, what));
                Checks.due(label + ", taker(" + i + ", " + what + ")", undone.taker(i, what), plain.taker(i, what));
            }
        }
        for (int number = 0; number < 5; number++) {
            for (int what = 0; what <= 2; what++) {
                Checks.due(label + ", event(" + number + ", " + what + ")", undone.event(number, what), plain.event(number, what));
            }
        }
    }
}
