/** Promises 11 to 18: event, taker, maker, blamed, steps, rule, waited, done. */
public final class AskedTest {
    public static void main(String[] args) {
        event();
        taker();
        maker();
        blamed();
        blamedInAChain();
        steps();
        stepsNever();
        rule();
        ruleFromNow();
        ruleWaits();
        badTicks();
        nothingIsChanged();
        Checks.end();
    }

    private static void event() {
        NumberedRings x = Checks.told("maker 1;maker 2;");
        x.claims(1, 3);
        x.fills(0, 42);
        x.gaps(1);
        int[][] due = {{1, 1, 42}, {2, 1, -9}, {0, 1, -9}};
        for (int number = 0; number < 3; number++) {
            for (int what = 0; what < 3; what++) {
                Checks.due("11: event(" + number + ", " + what + ")", x.event(number, what), due[number][what]);
            }
            Checks.due("11: event(" + number + ", -1)", x.event(number, -1), -1);
            Checks.due("11: event(" + number + ", 3)", x.event(number, 3), -1);
        }
        Checks.due("11: event(3, 0)", x.event(3, 0), -1);
        Checks.due("11: event(-1, 0)", x.event(-1, 0), -1);
        Checks.due("11: event(min, 0)", x.event(Integer.MIN_VALUE, 0), -1);
    }

    private static void taker() {
        NumberedRings x = Checks.told("maker 1;taker 3 0;taker 4 0;taker 5 3;");
        x.claims(0, 6);
        for (int number = 0; number < 5; number++) {
            x.fills(number, 10);
        }
        x.takes(0, 2);
        x.takes(1, 4);
        x.takes(2, 1);
        int[][] due = {{3, 0, 2, 5, 3, 2, 320}, {4, 0, 4, 5, 1, 4, 0}, {5, 3, 1, 2, 4, 1, 12}};
        due[1][6] = (31 * (31 * (31 * 11 + 11) + 11) + 11) % 9973;
        for (int t = 0; t < 3; t++) {
            for (int what = 0; what < 7; what++) {
                Checks.due("12: taker(" + t + ", " + what + ")", x.taker(t, what), due[t][what]);
            }
        }
        Checks.due("12: taker(3, 0)", x.taker(3, 0), -1);
        Checks.due("12: taker(-1, 0)", x.taker(-1, 0), -1);
        Checks.due("12: taker(0, 7)", x.taker(0, 7), -1);
        Checks.due("12: taker(0, -1)", x.taker(0, -1), -1);
    }

    private static void maker() {
        NumberedRings x = Checks.told("slots 5;maker 1;maker 0;maker 9;taker 1 0;");
        x.claims(2, 2);
        x.claims(0, 1);
        x.claims(2, 2);
        x.claims(0, 7);
        x.claims(2, 3);
        x.fills(0, 1);
        x.gaps(3);
        int[][] due = {{1, 7, 0, 1}, {0, 0, -9, 0}, {9, 3, 1, 2}};
        for (int m = 0; m < 3; m++) {
            for (int what = 0; what < 4; what++) {
                Checks.due("13: maker(" + m + ", " + what + ")", x.maker(m, what), due[m][what]);
            }
        }
        Checks.due("13: maker(3, 0)", x.maker(3, 0), -1);
        Checks.due("13: maker(-1, 0)", x.maker(-1, 0), -1);
        Checks.due("13: maker(0, 4)", x.maker(0, 4), -1);
        Checks.due("13: maker(0, -1)", x.maker(0, -1), -1);
    }

    private static void blamed() {
        NumberedRings x = Checks.told("slots 3;maker 1;maker 1;taker 1 0;taker 1 0;");
        Checks.due("14: nobody waits", x.blamed(), -9);
        x.claims(1, 1);
        x.claims(0, 2);
        Checks.due("14: nobody waits, no room", x.blamed(), -9);
        x.claims(0, 1);
        Checks.due("14: the maker of 0", x.blamed(), 11);
        x.fills(0, 1);
        Checks.due("14: the lowest of two takers", x.blamed(), 0);
        x.takes(0, 1);
        Checks.due("14: the least done", x.blamed(), 1);

        NumberedRings none = Checks.told("slots 3;maker 1;");
        none.claims(0, 4);
        Checks.due("14: there are no takers", none.blamed(), -9);

        NumberedRings noneOpen = Checks.told("slots 3;maker 1;taker 1 0;");
        noneOpen.claims(0, 4);
        Checks.due("14: no number is open", noneOpen.blamed(), -9);
        noneOpen.calls(0);
        noneOpen.claims(0, 2);
        noneOpen.claims(0, 2);
        noneOpen.gaps(0);
        noneOpen.takes(0, 1);
        Checks.due("14: let in", noneOpen.blamed(), -9);
    }

    private static void blamedInAChain() {
        NumberedRings x = Checks.told("slots 4;maker 1;maker 1;taker 1 0;taker 1 0;taker 1 3;taker 1 4;");
        x.claims(1, 4);
        x.claims(0, 2);
        Checks.due("14: the maker", x.blamed(), 11);
        x.fills(0, 1);
        x.fills(1, 1);
        x.takes(1, 2);
        Checks.due("14: taker 0 has the least done", x.blamed(), 0);
        x.takes(0, 1);
        Checks.due("14: taker 2, lower than 3", x.blamed(), 2);
        x.takes(2, 1);
        Checks.due("14: taker 3 has one ahead", x.blamed(), 3);
        x.takes(3, 1);
        Checks.due("14: of 0, 2, 3 the lowest, it has one ahead", x.blamed(), 0);
        x.takes(0, 1);
        x.takes(2, 1);
        Checks.due("14: taker 3 again", x.blamed(), 3);

        NumberedRings y = Checks.told("slots 4;maker 1;maker 1;taker 1 0;taker 1 0;taker 1 3;taker 1 0;");
        y.claims(0, 4);
        y.claims(1, 2);
        y.gaps(0);
        y.takes(3, 1);
        y.takes(0, 1);
        y.takes(1, 1);
        Checks.due("14: taker 2 can", y.blamed(), 2);
        NumberedRings z = Checks.told("slots 4;maker 1;maker 1;taker 1 0;taker 1 0;taker 1 2;");
        z.claims(0, 4);
        z.claims(1, 2);
        z.gaps(0);
        z.takes(0, 1);
        Checks.due("14: taker 1", z.blamed(), 1);
        z.takes(1, 1);
        z.takes(2, 1);
        Checks.due("14: the maker of 1", z.blamed(), 10);
    }

    private static void steps() {
        NumberedRings x = Checks.told("slots 4;maker 1;maker 1;taker 1 0;taker 1 0;taker 1 1;");
        Checks.due("15: nobody waits", x.steps(), -9);
        x.claims(0, 4);
        x.claims(1, 3);
        Checks.due("15: nothing is filled", x.steps(), -9);
        x.fills(0, 1);
        x.fills(1, 1);
        Checks.due("15: too little is filled", x.steps(), -9);
        x.gaps(2);
        Checks.due("15: three takes", x.steps(), 3);
        x.takes(1, 3);
        Checks.due("15: two takes", x.steps(), 2);
        x.takes(0, 2);
        Checks.due("15: two takes yet", x.steps(), 2);
        x.takes(2, 2);
        Checks.due("15: two takes yet, 0 ahead of 2", x.steps(), 2);
        x.takes(0, 1);
        Checks.due("15: one take", x.steps(), 1);
        x.takes(2, 1);
        Checks.due("15: it is claimed", x.steps(), -9);
        Checks.due("15: claimed", x.count(3), 7);
    }

    private static void stepsNever() {
        NumberedRings x = Checks.told("slots 4;maker 1;taker 1 0;");
        x.claims(0, 5);
        Checks.due("15: wants more than there are slots", x.steps(), -9);
        NumberedRings none = Checks.told("slots 4;maker 1;");
        none.claims(0, 5);
        Checks.due("15: there are no takers", none.steps(), -9);
        NumberedRings one = Checks.told("slots 4;maker 1;taker 1 0;");
        one.claims(0, 4);
        one.claims(0, 4);
        one.gaps(0);
        Checks.due("15: one taker can't come far enough", one.steps(), -9);
        one.gaps(1);
        one.gaps(2);
        one.fills(3, 3);
        Checks.due("15: one taker, one take", one.steps(), 1);
    }

    private static void rule() {
        NumberedRings x = Checks.told("slots 4;maker 3;maker 0;taker 1 0;taker 2 1;");
        // The second claim has to wait until two are gone over, the third until five are.
        int[] claimed = {0, 3, 3, 6, 6, 6, 9};
        int[] least = {0, 0, 1, 2, 3, 4, 5};
        int[] waiting = {0, 0, 1, 0, 1, 1, 0};
        int[] waits = {0, 0, 1, 1, 2, 3, 3};
        for (int m = 0; m < claimed.length; m++) {
            Checks.due("16: rule(" + m + ", 0)", x.rule(m, 0), claimed[m]);
            Checks.due("16: rule(" + m + ", 1)", x.rule(m, 1), least[m]);
            Checks.due("16: rule(" + m + ", 2)", x.rule(m, 2), 0);
            Checks.due("16: rule(" + m + ", 3)", x.rule(m, 3), waiting[m]);
            Checks.due("17: waited(" + m + ", 0)", x.waited(m, 0), waits[m]);
            Checks.due("17: waited(" + m + ", 1)", x.waited(m, 1), 0);
            Checks.due("18: done(" + m + ", 0)", x.done(m, 0), least[m]);
            Checks.due("18: done(" + m + ", 1)", x.done(m, 1), least[m]);
        }
        NumberedRings slow = Checks.told("slots 16;maker 9;taker 9 0;taker 1 0;taker 2 3;");
        Checks.due("16: slow", slow.rule(3, 2), 1);
        NumberedRings none = Checks.told("slots 16;maker 9;maker 9;maker 9;");
        Checks.due("16: no takers, claimed", none.rule(60, 0), 1620);
        Checks.due("16: no takers, least", none.rule(60, 1), 1620);
        Checks.due("16: no takers, slow", none.rule(60, 2), -9);
    }

    private static void ruleFromNow() {
        NumberedRings x = Checks.told("slots 8;maker 2;taker 3 0;");
        x.claims(0, 5);
        x.fills(0, 1);
        x.fills(2, 1);
        x.takes(0, 1);
        Checks.due("16: claimed now", x.rule(0, 0), 5);
        Checks.due("16: least now", x.rule(0, 1), 1);
        Checks.due("18: done now", x.done(0, 0), 1);
        Checks.due("18: done behind a tick", x.done(1, 0), 4);
        Checks.due("16: claimed behind a tick", x.rule(1, 0), 7);
        Checks.due("18: done behind two ticks", x.done(2, 0), 7);
        Checks.due("18: done behind three ticks", x.done(3, 0), 9);
    }

    private static void ruleWaits() {
        NumberedRings x = Checks.told("slots 4;maker 0;maker 1;maker 2;taker 1 0;");
        x.claims(0, 4);
        x.claims(0, 4);
        Checks.due("17: waited(0, 0)", x.waited(0, 0), 0);
        Checks.due("17: waited(3, 0)", x.waited(3, 0), 3);
        Checks.due("17: waited(4, 0), let in at the fourth", x.waited(4, 0), 3);
        Checks.due("17: waited(4, 1)", x.waited(4, 1), 4);
        Checks.due("17: waited(4, 2)", x.waited(4, 2), 4);
        Checks.due("16: who waits", x.rule(4, 3), 2);
        Checks.due("16: claimed", x.rule(4, 0), 8);
        Checks.due("17: waited(5, 1)", x.waited(5, 1), 4);
        Checks.due("17: waited(60, 0)", x.waited(60, 0), 3);
    }

    private static void badTicks() {
        NumberedRings x = Checks.told("maker 1;taker 1 0;");
        int[] bad = {-1, 61, Integer.MIN_VALUE, Integer.MAX_VALUE};
        for (int m : bad) {
            Checks.due("16: rule(" + m + ", 0)", x.rule(m, 0), -1);
            Checks.due("17: waited(" + m + ", 0)", x.waited(m, 0), -1);
            Checks.due("18: done(" + m + ", 0)", x.done(m, 0), -1);
        }
        Checks.due("16: rule(0, -1)", x.rule(0, -1), -1);
        Checks.due("16: rule(0, 4)", x.rule(0, 4), -1);
        Checks.due("17: waited(0, -1)", x.waited(0, -1), -1);
        Checks.due("17: waited(0, 1)", x.waited(0, 1), -1);
        Checks.due("18: done(0, -1)", x.done(0, -1), -1);
        Checks.due("18: done(0, 1)", x.done(0, 1), -1);
        Checks.due("16: rule(60, 0)", x.rule(60, 0), 60);
        Checks.due("17: waited(60, 0)", x.waited(60, 0), 0);
        Checks.due("18: done(60, 0)", x.done(60, 0), 59);
    }

    private static void nothingIsChanged() {
        NumberedRings x = Checks.told("slots 4;maker 3;maker 2;taker 1 0;taker 2 1;");
        x.claims(0, 3);
        x.claims(1, 2);
        x.fills(0, 9);
        x.rule(60, 0);
        x.waited(60, 0);
        x.done(60, 1);
        x.blamed();
        x.steps();
        x.which();
        x.look();
        int[] due = {4, 2, 2, 3, 1, 0, 1, 1, 0, 0, 3};
        for (int what = 0; what < due.length; what++) {
            Checks.due("asked: count(" + what + ")", x.count(what), due[what]);
        }
        Checks.due("asked: open", x.event(1, 0), 0);
        Checks.due("asked: done", x.taker(0, 2), 0);
    }
}
