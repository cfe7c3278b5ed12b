/** The edges that promises 11 to 18 name: nobody waits, no TAKERS, never, 0 and 60 TICKS, of several the lowest. */
public final class AskedEdgesTest {
    public static void main(String[] args) {
        events();
        lag();
        makers();
        blamedWithoutCause();
        blamedOfSeveral();
        blamedMaker();
        blamedOneByOne();
        stepsToTheCursor();
        stepsOfAll();
        stepsOfTheFirst();
        stepsNever();
        zeroTicks();
        sixtyTicks();
        ruleWithout();
        ruleBeyond999();
        rateNought();
        rateAboveTheSlots();
        slowest();
        waitsAtTheEnds();
        speedOrNothing();
        Checks.end();
    }

    private static void fillAll(NumberedRings x) {
        for (int number = x.count(4); number < x.count(3); number++) {
            x.fills(number, 1);
        }
    }

    /** "0 what it is (0 OPEN, 1 FULL, 2 a GAP), 1 its MAKER, 2 its VALUE (NONE: it is not FULL)" */
    private static void events() {
        NumberedRings x = Checks.told("maker 1;maker 1;maker 1;");
        Checks.due("11: event(0, 0), none is CLAIMED", x.event(0, 0), -1);
        x.claims(2, 3);
        x.claims(0, 1);
        Checks.due("11: VALUE of an OPEN one", x.event(0, 2), -9);
        x.gaps(0);
        Checks.due("11: VALUE of a GAP", x.event(0, 2), -9);
        x.fills(1, 0);
        Checks.due("11: VALUE 0 of a FULL one", x.event(1, 2), 0);
        x.fills(2, 99);
        Checks.due("11: VALUE 99 of a FULL one", x.event(2, 2), 99);
        Checks.due("11: a GAP", x.event(0, 0), 2);
        Checks.due("11: a FULL one", x.event(1, 0), 1);
        Checks.due("11: an OPEN one", x.event(3, 0), 0);
        Checks.due("11: MAKER of a GAP", x.event(0, 1), 2);
        Checks.due("11: MAKER of a FULL one", x.event(2, 1), 2);
        Checks.due("11: MAKER of the last", x.event(3, 1), 0);
        Checks.due("11: event(4, 1), not CLAIMED", x.event(4, 1), -1);
    }

    /** "LAG of a TAKER: CURSOR less its DONE" */
    private static void lag() {
        NumberedRings x = Checks.told("maker 1;taker 1 0;taker 1 1;");
        Checks.due("12: LAG at first", x.taker(1, 4), 0);
        x.claims(0, 3);
        Checks.due("12: LAG, all OPEN", x.taker(1, 4), 0);
        fillAll(x);
        Checks.due("12: LAG, all FULL", x.taker(1, 4), 3);
        x.takes(0, 2);
        Checks.due("12: LAG is by CURSOR, not by AT MOST", x.taker(1, 4), 3);
        x.takes(1, 2);
        Checks.due("12: LAG with none ahead of AT MOST", x.taker(1, 4), 1);
        x.takes(0, 1);
        Checks.due("12: LAG of one that has all", x.taker(0, 4), 0);
    }

    /** "1 how many it waits for (0: it does not wait), 2 its place in THE ROW (NONE), 3 how many numbers are OPEN of it" */
    private static void makers() {
        NumberedRings x = Checks.told("slots 2;maker 0;maker 9;taker 1 0;");
        int[][] atFirst = {{0, 0, -9, 0}, {9, 0, -9, 0}};
        for (int m = 0; m < 2; m++) {
            for (int what = 0; what <= 3; what++) {
                Checks.due("13: maker(" + m + ", " + what + ") at first", x.maker(m, what), atFirst[m][what]);
            }
        }
        x.claims(1, 2);
        Checks.due("13: two are OPEN", x.maker(1, 3), 2);
        Checks.due("13: none is OPEN of the other", x.maker(0, 3), 0);
        x.claims(1, 9);
        x.claims(0, 1);
        Checks.due("13: what waits is not OPEN", x.maker(1, 3), 2);
        Checks.due("13: it waits for 9", x.maker(1, 1), 9);
        Checks.due("13: it waits for 1", x.maker(0, 1), 1);
        x.gaps(1);
        Checks.due("13: one is OPEN behind a GAP", x.maker(1, 3), 1);
        x.fills(0, 0);
        Checks.due("13: none is OPEN", x.maker(1, 3), 0);
        NumberedRings many = Checks.told("slots 9;maker 1;");
        for (int i = 0; i < 111; i++) {
            many.claims(0, 9);
        }
        Checks.due("13: all 999 are OPEN", many.maker(0, 3), 999);
        many.fills(998, 0);
        many.fills(0, 0);
        Checks.due("13: all but the first and the last", many.maker(0, 3), 997);
    }

    /** "NONE, if nobody waits, there are no TAKERS"; "(NONE, if there is no OPEN one)" */
    private static void blamedWithoutCause() {
        Checks.due("14: a new object", new NumberedRings().blamed(), -9);
        NumberedRings x = Checks.told("slots 2;maker 1;taker 1 0;");
        Checks.due("14: nobody waits, nothing CLAIMED", x.blamed(), -9);
        x.claims(0, 2);
        Checks.due("14: nobody waits, ROOM is 0", x.blamed(), -9);
        x.claims(0, 1);
        Checks.due("14: one waits", x.blamed(), 10);
        x.calls(0);
        Checks.due("14: nobody waits any more", x.blamed(), -9);
        NumberedRings noTakers = Checks.told("slots 2;maker 1;");
        noTakers.claims(0, 1);
        noTakers.claims(0, 3);
        Checks.due("14: one waits, no takers", noTakers.blamed(), -9);
        NumberedRings tooMuch = Checks.told("slots 2;maker 1;taker 1 0;");
        tooMuch.claims(0, 3);
        Checks.due("14: one waits for more than the SLOTS, nothing CLAIMED", tooMuch.blamed(), -9);
        NumberedRings allDone = Checks.told("slots 2;maker 1;taker 1 0;");
        allDone.claims(0, 2);
        allDone.claims(0, 3);
        fillAll(allDone);
        Checks.due("14: the taker has all ahead", allDone.blamed(), 0);
        allDone.takes(0, 2);
        Checks.due("14: the taker has all, nothing is OPEN", allDone.blamed(), -9);
    }

    /** "the TAKER of the least DONE, of several the lowest" */
    private static void blamedOfSeveral() {
        NumberedRings x = Checks.told("slots 4;maker 1;taker 1 0;taker 1 0;taker 1 0;taker 1 0;taker 1 0;taker 1 0;");
        x.claims(0, 4);
        x.claims(0, 4);
        fillAll(x);
        for (int t = 0; t < 6; t++) {
            Checks.due("14: the lowest of those with DONE 0", x.blamed(), t);
            x.takes(t, 2);
        }
        for (int t = 0; t < 6; t++) {
            Checks.due("14: the lowest of those with DONE 2", x.blamed(), t);
            x.takes(t, 1);
        }
        x.takes(0, 1);
        x.takes(1, 1);
        x.takes(2, 1);
        x.takes(3, 1);
        x.takes(4, 1);
        Checks.due("14: the last one alone", x.blamed(), 5);
        x.takes(5, 1);
        Checks.due("14: let in", x.blamed(), -9);
    }

    /** "else the MAKER of the lowest OPEN number .. told as 10 and its number" */
    private static void blamedMaker() {
        for (int m = 0; m < 3; m++) {
            NumberedRings x = Checks.told("slots 3;maker 1;maker 1;maker 1;taker 1 0;");
            x.claims((m + 1) % 3, 1);
            x.claims(m, 1);
            x.claims((m + 2) % 3, 1);
            x.claims(0, 2);
            Checks.due("14: the maker of 0", x.blamed(), 10 + (m + 1) % 3);
            x.fills(2, 1);
            Checks.due("14: the maker of 0 yet", x.blamed(), 10 + (m + 1) % 3);
            x.gaps(0);
            Checks.due("14: the taker has 0 ahead", x.blamed(), 0);
            x.takes(0, 1);
            Checks.due("14: the maker of 1, which is not the lowest number", x.blamed(), 10 + m);
        }
    }

    /** "while a TAKER that is blamed has no number ahead of AT MOST: if it is BEHIND others, .." */
    private static void blamedOneByOne() {
        NumberedRings x = Checks.told("slots 2;maker 1;taker 1 0;taker 1 1;taker 1 2;taker 1 4;taker 1 8;taker 1 31;");
        x.claims(0, 2);
        x.claims(0, 2);
        Checks.due("14: none has a number ahead, the maker", x.blamed(), 10);
        fillAll(x);
        for (int round = 0; round < 2; round++) {
            for (int t = 0; t < 6; t++) {
                Checks.due("14: each one in its order", x.blamed(), t);
                Checks.due("8: it can", x.takes(t, 1), 1);
            }
        }
        Checks.due("14: let in", x.blamed(), -9);
    }

    /** "STEPS: .. by TAKES alone it is never": all have to come to a number that CURSOR must have reached. */
    private static void stepsToTheCursor() {
        for (int wanted = 1; wanted <= 9; wanted++) {
            NumberedRings x = Checks.told("slots 16;maker 1;maker 1;taker 1 0;");
            x.claims(0, 9);
            x.claims(0, 7);
            x.claims(1, wanted);
            for (int cursor = 0; cursor < 16; cursor++) {
                Checks.due("15: steps() for " + wanted + " with CURSOR " + cursor, x.steps(), cursor < wanted ? -9 : 1);
                x.fills(cursor, 0);
            }
            // One of nine at most, of whatever n.
            Checks.due("8: takes(0, " + wanted + ")", x.takes(0, wanted), wanted);
            Checks.due("15: steps(), it is CLAIMED", x.steps(), -9);
            Checks.due("8: CLAIMED", x.count(3), 16 + wanted);
        }
    }

    /** "the fewest TAKES (of whatever n) by which it is CLAIMED" */
    private static void stepsOfAll() {
        String[] orders = {"0 0 0 0 0 0", "0 1 2 4 8 16", "0 0 3 7 15 31", "0 1 1 1 1 1"};
        for (String order : orders) {
            StringBuilder text = new StringBuilder("slots 9;maker 1;maker 1;");
            for (String set : order.split(" ")) {
                text.append("taker 1 ").append(set).append(';');
            }
            NumberedRings x = Checks.told(text.toString());
            x.claims(0, 9);
            x.claims(1, 9);
            fillAll(x);
            for (int t = 0; t < 6; t++) {
                Checks.due("15: steps() by " + order, x.steps(), 6 - t);
                x.takes(t, 8);
                Checks.due("15: steps() by " + order + ", one is lacking", x.steps(), 6 - t);
                x.takes(t, 1);
            }
            Checks.due("15: steps() by " + order + ", nobody waits", x.steps(), -9);
            Checks.due("15: CLAIMED", x.count(3), 18);
        }
    }

    /** "STEPS: of the first of THE ROW" */
    private static void stepsOfTheFirst() {
        NumberedRings x = Checks.told("slots 4;maker 1;maker 1;maker 1;taker 1 0;taker 1 0;");
        x.claims(0, 4);
        x.claims(1, 3);
        x.claims(2, 1);
        x.fills(0, 1);
        Checks.due("15: never for the first, though the second wants but one", x.steps(), -9);
        x.fills(1, 1);
        x.fills(2, 1);
        Checks.due("15: for the first", x.steps(), 2);
        x.takes(1, 1);
        Checks.due("15: enough for the second, not for the first", x.steps(), 2);
        x.calls(1);
        Checks.due("15: for the second, now first", x.steps(), 1);
    }

    /** "NONE: nobody waits, or by TAKES alone it is never" */
    private static void stepsNever() {
        Checks.due("15: a new object", new NumberedRings().steps(), -9);
        NumberedRings x = Checks.told("slots 8;maker 1;taker 1 0;");
        Checks.due("15: nobody waits", x.steps(), -9);
        x.claims(0, 9);
        Checks.due("15: more than the SLOTS, nothing CLAIMED", x.steps(), -9);
        x.calls(0);
        x.claims(0, 8);
        fillAll(x);
        Checks.due("15: nobody waits, ROOM is 0", x.steps(), -9);
        x.claims(0, 9);
        Checks.due("15: more than the SLOTS, all FULL", x.steps(), -9);
        x.takes(0, 8);
        Checks.due("15: more than the SLOTS, all gone over", x.steps(), -9);
        NumberedRings noTakers = Checks.told("slots 8;maker 1;");
        noTakers.claims(0, 9);
        Checks.due("15: no takers", noTakers.steps(), -9);
    }

    /** "BY RULE, m TICKS (0 to 60): all goes on from NOW" */
    private static void zeroTicks() {
        NumberedRings x = Checks.told("slots 4;maker 9;maker 1;taker 1 0;taker 1 0;");
        x.claims(0, 3);
        x.claims(1, 2);
        x.fills(0, 1);
        x.takes(0, 1);
        int[] now = {3, 0, 1, 1};
        for (int what = 0; what <= 3; what++) {
            Checks.due("16: rule(0, " + what + ")", x.rule(0, what), now[what]);
        }
        Checks.due("17: waited(0, 1) of one that waits", x.waited(0, 1), 0);
        Checks.due("18: done(0, 0)", x.done(0, 0), 1);
        Checks.due("18: done(0, 1)", x.done(0, 1), 0);
    }

    private static void sixtyTicks() {
        // At TICK i the i-th is CLAIMED, and the one of the TICK ahead gone over.
        NumberedRings x = Checks.told("slots 2;maker 1;taker 1 0;");
        for (int m = 0; m <= 60; m++) {
            Checks.due("16: rule(" + m + ", 0)", x.rule(m, 0), m);
            Checks.due("16: rule(" + m + ", 1)", x.rule(m, 1), Math.max(0, m - 1));
            Checks.due("16: rule(" + m + ", 3)", x.rule(m, 3), 0);
            Checks.due("18: done(" + m + ", 0)", x.done(m, 0), Math.max(0, m - 1));
            Checks.due("17: waited(" + m + ", 0)", x.waited(m, 0), 0);
        }
        Checks.due("16: rule(61, 0)", x.rule(61, 0), -1);
        Checks.due("16: rule(-1, 0)", x.rule(-1, 0), -1);
        Checks.due("25: CLAIMED now", x.count(3), 0);
    }

    /** "SLOW: .. (NONE: no TAKERS)"; no MAKERS */
    private static void ruleWithout() {
        NumberedRings empty = new NumberedRings();
        int[] nothing = {0, 0, -9, 0};
        for (int what = 0; what <= 3; what++) {
            Checks.due("16: rule(60, " + what + ") of a new object", empty.rule(60, what), nothing[what]);
        }
        Checks.due("17: waited(60, 0), no makers", empty.waited(60, 0), -1);
        Checks.due("18: done(60, 0), no takers", empty.done(60, 0), -1);
        NumberedRings takers = Checks.told("taker 1 0;taker 1 0;");
        int[] still = {0, 0, 0, 0};
        for (int what = 0; what <= 3; what++) {
            Checks.due("16: rule(60, " + what + "), no makers", takers.rule(60, what), still[what]);
        }
        Checks.due("18: done(60, 1), no makers", takers.done(60, 1), 0);
        NumberedRings makers = Checks.told("slots 2;maker 2;maker 1;");
        int[] without = {180, 180, -9, 0};
        for (int what = 0; what <= 3; what++) {
            Checks.due("16: rule(60, " + what + "), no takers", makers.rule(60, what), without[what]);
        }
    }

    /** "(CLAIMED may go beyond 999)" */
    private static void ruleBeyond999() {
        NumberedRings x = Checks.told("slots 16;maker 9;maker 9;maker 9;");
        for (int i = 0; i < 111; i++) {
            x.claims(i % 3, 9);
        }
        for (int m = 0; m <= 60; m++) {
            Checks.due("16: rule(" + m + ", 0) from 999", x.rule(m, 0), 999 + 27 * m);
            Checks.due("16: rule(" + m + ", 1) from 999", x.rule(m, 1), 999 + 27 * m);
            Checks.due("16: rule(" + m + ", 3) from 999", x.rule(m, 3), 0);
        }
        Checks.due("5: claims(0, 1) now", x.claims(0, 1), -3);
        Checks.due("11: event(999, 0) now", x.event(999, 0), -1);
        // Without room for more: one taker, 16 slots.
        NumberedRings fast = Checks.told("slots 16;maker 9;maker 9;maker 9;taker 9 0;");
        Checks.due("18: done(60, 0) of the fastest", fast.done(60, 0), 531);
        Checks.due("16: rule(60, 0) of the fastest", fast.rule(60, 0), 540);
    }

    /** "each that has a RATE above 0 and does not wait CLAIMS that many" */
    private static void rateNought() {
        NumberedRings x = Checks.told("slots 4;maker 0;taker 1 0;");
        Checks.due("16: rule(60, 0), RATE 0", x.rule(60, 0), 0);
        x.claims(0, 3);
        Checks.due("16: rule(60, 0), RATE 0, three CLAIMED", x.rule(60, 0), 3);
        Checks.due("18: done(1, 0), what is OPEN of it is filled", x.done(1, 0), 1);
        Checks.due("18: done(60, 0)", x.done(60, 0), 3);
        x.claims(0, 2);
        Checks.due("16: rule(60, 0), RATE 0, what waits is let in", x.rule(60, 0), 5);
        Checks.due("17: waited(60, 0), let in at the first TICK", x.waited(60, 0), 0);
        Checks.due("18: done(60, 0) of all", x.done(60, 0), 5);
        NumberedRings other = Checks.told("slots 2;maker 3;maker 0;taker 1 0;");
        for (int m = 1; m <= 60; m++) {
            Checks.due("16: rule(" + m + ", 3), RATE 0 never waits behind another", other.rule(m, 3), 1);
            Checks.due("17: waited(" + m + ", 1), RATE 0", other.waited(m, 1), 0);
        }
        NumberedRings one = Checks.told("slots 4;maker 1;taker 1 0;");
        Checks.due("16: rule(1, 0), RATE 1", one.rule(1, 0), 1);
    }

    /** "WAITED of a MAKER: at the ends of how many TICKS it waits" */
    private static void rateAboveTheSlots() {
        for (int slots = 2; slots <= 9; slots++) {
            NumberedRings x = Checks.told("slots " + slots + ";maker 9;maker 1;taker 9 0;");
            boolean never = slots < 9;
            for (int m = 0; m <= 60; m += 12) {
                String label = " with slots " + slots;
                if (never) {
                    Checks.due("17: waited(" + m + ", 0)" + label, x.waited(m, 0), m);
                    Checks.due("17: waited(" + m + ", 1)" + label, x.waited(m, 1), m);
                    Checks.due("16: rule(" + m + ", 0)" + label, x.rule(m, 0), 0);
                    Checks.due("16: rule(" + m + ", 3)" + label, x.rule(m, 3), m == 0 ? 0 : 2);
                }
            }
            Checks.due("16: rule(1, 0) with slots " + slots, x.rule(1, 0), never ? 0 : 9);
            Checks.due("17: waited(1, 0) with slots " + slots, x.waited(1, 0), never ? 1 : 0);
            Checks.due("17: waited(1, 1) with slots " + slots, x.waited(1, 1), 1);
        }
    }

    /** "SLOW: the TAKER of the greatest LAG, of several the lowest" */
    private static void slowest() {
        NumberedRings x = Checks.told("slots 16;maker 4;taker 4 0;taker 2 0;taker 1 0;taker 1 0;");
        Checks.due("16: rule(0, 2), all the same", x.rule(0, 2), 0);
        Checks.due("16: rule(1, 2), all the same yet", x.rule(1, 2), 0);
        Checks.due("16: rule(2, 2), of two the lowest", x.rule(2, 2), 2);
        x.claims(0, 1);
        x.fills(0, 1);
        x.takes(0, 1);
        Checks.due("16: rule(0, 2), of three the lowest", x.rule(0, 2), 1);
        x.takes(1, 1);
        x.takes(2, 1);
        Checks.due("16: rule(0, 2), the last one", x.rule(0, 2), 3);
    }

    private static void waitsAtTheEnds() {
        // Two wait for the two of the first TICK until these are gone over, one by one.
        NumberedRings x = Checks.told("slots 2;maker 2;maker 2;taker 1 0;");
        int[] first = {0, 0, 1, 2, 3, 3, 4, 5};
        int[] second = {0, 1, 2, 2, 3, 4, 5, 5};
        int[] claimed = {0, 2, 2, 4, 4, 6, 6, 8};
        int[] waiting = {0, 1, 2, 1, 2, 1, 2, 1};
        for (int m = 0; m < first.length; m++) {
            Checks.due("17: waited(" + m + ", 0)", x.waited(m, 0), first[m]);
            Checks.due("17: waited(" + m + ", 1)", x.waited(m, 1), second[m]);
            Checks.due("16: rule(" + m + ", 0)", x.rule(m, 0), claimed[m]);
            Checks.due("16: rule(" + m + ", 3)", x.rule(m, 3), waiting[m]);
        }
    }

    /** "then TAKER by TAKER, each TAKES as many as its SPEED (or nothing)" */
    private static void speedOrNothing() {
        for (int speed = 1; speed <= 9; speed++) {
            NumberedRings x = Checks.told("slots 16;maker 0;taker " + speed + " 0;taker 9 1;taker 1 2;");
            x.claims(0, 9);
            for (int m = 0; m <= 10; m++) {
                int due = Math.min(9, speed * m);
                Checks.due("18: done(" + m + ", 0) with SPEED " + speed, x.done(m, 0), due);
                Checks.due("18: done(" + m + ", 1) behind it, at the same TICK", x.done(m, 1), due);
                Checks.due("18: done(" + m + ", 2) behind both", x.done(m, 2), Math.min(9, m));
            }
        }
    }
}
