/** Promises 5 to 10: claims, fills, gaps, takes, calls, undo. */
public final class DoneTest {
    public static void main(String[] args) {
        claims();
        claimsWithoutTakers();
        claimsFull();
        fillsAndGaps();
        takes();
        takesInOrder();
        takesLetsIn();
        calls();
        undo();
        undoOfEach();
        refusedIsNotUndone();
        Checks.end();
    }

    private static void claims() {
        NumberedRings x = Checks.told("slots 4;maker 1;maker 2;maker 3;taker 1 0;");
        Checks.due("5: claims(-1, 1)", x.claims(-1, 1), -1);
        Checks.due("5: claims(3, 1)", x.claims(3, 1), -1);
        Checks.due("5: claims(0, 0)", x.claims(0, 0), -1);
        Checks.due("5: claims(0, 10)", x.claims(0, 10), -1);
        Checks.due("5: claims(min, 1)", x.claims(Integer.MIN_VALUE, 1), -1);
        Checks.due("5: claims(0, max)", x.claims(0, Integer.MAX_VALUE), -1);
        Checks.due("5: nothing claimed", x.count(3), 0);
        Checks.due("5: claims(2, 3)", x.claims(2, 3), 0);
        Checks.due("5: maker of 2", x.event(2, 1), 2);
        Checks.due("5: claims(1, 2) waits", x.claims(1, 2), -9);
        Checks.due("5: claims(1, 0)", x.claims(1, 0), -1);
        Checks.due("5: claims(1, 1) again", x.claims(1, 1), -2);
        Checks.due("5: claims(0, 1) waits behind", x.claims(0, 1), -9);
        Checks.due("5: claims(2, 9) waits last", x.claims(2, 9), -9);
        Checks.due("5: places", x.maker(1, 2) * 100 + x.maker(0, 2) * 10 + x.maker(2, 2), 12);
        Checks.due("5: claimed", x.count(3), 3);
        Checks.due("5: room", x.count(6), 1);
        Checks.due("5: waiting", x.count(7), 3);
    }

    private static void claimsWithoutTakers() {
        NumberedRings x = Checks.told("slots 4;maker 1;maker 1;");
        Checks.due("5: claims(0, 4)", x.claims(0, 4), 0);
        Checks.due("5: claims(0, 4) again", x.claims(0, 4), 4);
        Checks.due("5: claims(0, 5) waits", x.claims(0, 5), -9);
        Checks.due("5: claims(1, 1) waits behind", x.claims(1, 1), -9);
        Checks.due("5: claims(1, 1) waits already", x.claims(1, 1), -2);
    }

    private static void claimsFull() {
        NumberedRings x = Checks.told("slots 9;maker 1;maker 1;");
        for (int i = 0; i < 110; i++) {
            Checks.due("5: claims(0, 9) as " + i, x.claims(0, 9), 9 * i);
        }
        Checks.due("5: claims(0, 9) to 999", x.claims(0, 9), 990);
        Checks.due("5: claims(0, 1) beyond", x.claims(0, 1), -3);
        Checks.due("5: claims(0, 10) beyond", x.claims(0, 10), -1);
        Checks.due("5: fills(998, 1)", x.fills(998, 1), 0);
        Checks.due("5: event(998, 2)", x.event(998, 2), 1);
        Checks.due("5: event(999, 0)", x.event(999, 0), -1);
        Checks.due("5: rule(60, 0) beyond 999", x.rule(60, 0), 999 + 120);

        NumberedRings y = Checks.told("slots 8;maker 1;maker 1;maker 1;");
        for (int i = 0; i < 123; i++) {
            y.claims(0, 8);
        }
        Checks.due("5: claimed", y.count(3), 984);
        Checks.due("5: claims(1, 9) waits", y.claims(1, 9), -9);
        Checks.due("5: claims(1, 9) waits already", y.claims(1, 9), -2);
        Checks.due("5: claims(0, 7) beyond", y.claims(0, 7), -3);
        Checks.due("5: claims(0, 6) waits", y.claims(0, 6), -9);
        Checks.due("5: claims(2, 1) beyond", y.claims(2, 1), -3);
        Checks.due("5: calls(1)", y.calls(1), 9);
        Checks.due("5: claimed behind it", y.count(3), 990);
    }

    private static void fillsAndGaps() {
        NumberedRings x = Checks.told("maker 1;maker 1;taker 1 0;");
        Checks.due("6: fills(0, 0) of none", x.fills(0, 0), -1);
        Checks.due("7: gaps(0) of none", x.gaps(0), -1);
        x.claims(0, 2);
        x.claims(1, 4);
        Checks.due("6: fills(-1, 0)", x.fills(-1, 0), -1);
        Checks.due("6: fills(6, 0)", x.fills(6, 0), -1);
        Checks.due("6: fills(max, 0)", x.fills(Integer.MAX_VALUE, 0), -1);
        Checks.due("6: fills(0, -1)", x.fills(0, -1), -1);
        Checks.due("6: fills(0, 100)", x.fills(0, 100), -1);
        Checks.due("7: gaps(-1)", x.gaps(-1), -1);
        Checks.due("7: gaps(6)", x.gaps(6), -1);
        Checks.due("6: fills(2, 99)", x.fills(2, 99), 0);
        Checks.due("7: gaps(1)", x.gaps(1), 0);
        Checks.due("6: fills(0, 0)", x.fills(0, 0), 3);
        Checks.due("6: fills(0, 0) again", x.fills(0, 0), -2);
        Checks.due("6: fills(1, 0) of a gap", x.fills(1, 0), -2);
        Checks.due("6: fills(1, 100) of a gap", x.fills(1, 100), -1);
        Checks.due("7: gaps(0) of a full one", x.gaps(0), -2);
        Checks.due("7: gaps(1) again", x.gaps(1), -2);
        Checks.due("6: kinds", x.event(0, 0) * 100 + x.event(1, 0) * 10 + x.event(2, 0), 121);
        Checks.due("6: value of 2", x.event(2, 2), 99);
        Checks.due("6: value of 0", x.event(0, 2), 0);
        Checks.due("7: value of 1", x.event(1, 2), -9);
        Checks.due("7: maker of 1", x.event(1, 1), 0);
        Checks.due("6: maker of 2", x.event(2, 1), 1);
        Checks.due("7: gaps(5)", x.gaps(5), 3);
        Checks.due("7: gaps(3)", x.gaps(3), 4);
        Checks.due("6: fills(4, 5) to the end", x.fills(4, 5), 6);
        Checks.due("6: cursor", x.count(4), 6);
    }

    private static void takes() {
        NumberedRings x = Checks.told("slots 16;maker 1;taker 1 0;taker 1 0;");
        Checks.due("8: takes(-1, 1)", x.takes(-1, 1), -1);
        Checks.due("8: takes(2, 1)", x.takes(2, 1), -1);
        Checks.due("8: takes(0, 0)", x.takes(0, 0), -1);
        Checks.due("8: takes(0, 17)", x.takes(0, 17), -1);
        Checks.due("8: takes(0, 1) of none", x.takes(0, 1), -2);
        x.claims(0, 9);
        x.claims(0, 7);
        Checks.due("8: takes(0, 1) of open ones", x.takes(0, 1), -2);
        for (int number = 0; number < 16; number++) {
            if (number == 3) {
                x.gaps(number);
            } else {
                x.fills(number, 84 + number);
            }
        }
        Checks.due("8: takes(0, 2)", x.takes(0, 2), 2);
        Checks.due("8: done", x.taker(0, 2), 2);
        Checks.due("8: count", x.taker(0, 5), 2);
        Checks.due("8: sum", x.taker(0, 6), 31 * 84 + 85);
        Checks.due("8: takes(0, 2) over a gap", x.takes(0, 2), 2);
        Checks.due("8: count over a gap", x.taker(0, 5), 3);
        Checks.due("8: sum over a gap", x.taker(0, 6), (31 * (31 * 84 + 85) + 86) % 9973);
        Checks.due("8: takes(1, 16)", x.takes(1, 16), 16);
        int sum = 0;
        for (int number = 0; number < 16; number++) {
            sum = number == 3 ? sum : (31 * sum + 84 + number + 1) % 9973;
        }
        Checks.due("8: sum of taker 1", x.taker(1, 6), sum);
        Checks.due("8: count of taker 1", x.taker(1, 5), 15);
        Checks.due("8: takes(1, 1) of no more", x.takes(1, 1), -2);
        Checks.due("8: takes(1, 17) of no more", x.takes(1, 17), -1);
        Checks.due("8: takes(0, 16) of twelve", x.takes(0, 16), 12);
        Checks.due("8: least", x.count(5), 16);
    }

    private static void takesInOrder() {
        NumberedRings x = Checks.told("maker 1;taker 1 0;taker 1 0;taker 1 3;");
        x.claims(0, 4);
        for (int number = 0; number < 4; number++) {
            x.fills(number, 1);
        }
        Checks.due("8: takes(2, 1)", x.takes(2, 1), -2);
        Checks.due("8: takes(0, 3)", x.takes(0, 3), 3);
        Checks.due("8: takes(2, 1) behind one yet", x.takes(2, 1), -2);
        Checks.due("8: takes(1, 2)", x.takes(1, 2), 2);
        Checks.due("8: takes(2, 9)", x.takes(2, 9), 2);
        Checks.due("8: takes(1, 16)", x.takes(1, 16), 2);
        Checks.due("8: takes(2, 9) again", x.takes(2, 9), 1);
        Checks.due("8: sum of taker 2", x.taker(2, 6), 31 * (31 * 3 + 3) + 3);
    }

    private static void takesLetsIn() {
        NumberedRings x = Checks.told("slots 4;maker 1;maker 2;maker 3;taker 1 0;taker 1 0;");
        x.claims(0, 4);
        x.claims(1, 2);
        x.claims(2, 1);
        x.claims(0, 3);
        for (int number = 0; number < 4; number++) {
            x.fills(number, number);
        }
        x.takes(0, 4);
        Checks.due("8: nobody laps the slowest", x.count(3), 4);
        x.takes(1, 1);
        Checks.due("8: the first of the row holds the others up", x.count(3), 4);
        x.takes(1, 2);
        Checks.due("8: two are let in", x.count(3), 7);
        Checks.due("8: makers of 5, 6", x.event(5, 1) * 10 + x.event(6, 1), 12);
        Checks.due("8: one waits", x.count(7), 1);
        Checks.due("8: it is first", x.maker(0, 2), 0);
        Checks.due("8: takes(1, 1)", x.takes(1, 1), 1);
        Checks.due("8: it waits yet", x.count(7), 1);

        NumberedRings three = Checks.told("slots 3;maker 1;maker 2;maker 3;taker 1 0;");
        three.claims(0, 3);
        three.claims(2, 1);
        three.claims(1, 1);
        three.claims(0, 1);
        for (int number = 0; number < 3; number++) {
            three.gaps(number);
        }
        Checks.due("8: takes(0, 3)", three.takes(0, 3), 3);
        Checks.due("8: three are let in", three.count(3), 6);
        Checks.due("8: in the row's order", three.event(3, 1) * 100 + three.event(4, 1) * 10 + three.event(5, 1), 210);
    }

    private static void calls() {
        NumberedRings x = Checks.told("slots 4;maker 1;maker 2;maker 3;taker 1 0;");
        Checks.due("9: calls(-1)", x.calls(-1), -1);
        Checks.due("9: calls(3)", x.calls(3), -1);
        Checks.due("9: calls(0)", x.calls(0), -2);
        x.claims(0, 2);
        x.claims(0, 5);
        x.claims(1, 1);
        x.claims(2, 1);
        Checks.due("9: calls(1)", x.calls(1), 1);
        Checks.due("9: place of 2", x.maker(2, 2), 1);
        Checks.due("9: nothing is let in", x.count(3), 2);
        Checks.due("9: claims(1, 1) at the end", x.claims(1, 1), -9);
        Checks.due("9: calls(0) of the first", x.calls(0), 5);
        Checks.due("9: both are let in", x.count(3), 4);
        Checks.due("9: maker 2 first", x.event(2, 1) * 10 + x.event(3, 1), 21);
        Checks.due("9: calls(0) again", x.calls(0), -2);
        Checks.due("9: how many wait", x.count(7), 0);
    }

    private static void undo() {
        NumberedRings x = Checks.told("slots 16;maker 1;taker 1 0;");
        Checks.due("10: undo() of none", x.undo(), -2);
        for (int i = 0; i < 8; i++) {
            x.claims(0, 1);
            Checks.due("10: count(10)", x.count(10), Math.min(6, i + 1));
        }
        for (int i = 5; i >= 0; i--) {
            Checks.due("10: undo()", x.undo(), i);
            Checks.due("10: claimed", x.count(3), i + 2);
            Checks.due("10: count(10) behind it", x.count(10), i);
        }
        Checks.due("10: undo(), older ones are lost", x.undo(), -2);
        Checks.due("10: claimed yet", x.count(3), 2);
        Checks.due("10: claims behind undo()", x.claims(0, 3), 2);
        Checks.due("10: undo() of it", x.undo(), 0);
    }

    private static void undoOfEach() {
        NumberedRings x = Checks.told("slots 2;maker 1;maker 2;taker 1 0;");
        x.claims(0, 2);
        x.claims(1, 1);
        x.fills(0, 7);
        x.gaps(1);
        x.takes(0, 2);
        Checks.due("10: let in", x.count(3), 3);
        x.claims(0, 3);
        x.calls(0);
        Checks.due("10: undo() of calls", x.undo(), 5);
        Checks.due("10: waits for", x.maker(0, 1), 3);
        Checks.due("10: undo() of a claim that waits", x.undo(), 4);
        Checks.due("10: waits no more", x.maker(0, 1), 0);
        Checks.due("10: undo() of takes", x.undo(), 3);
        Checks.due("10: claimed", x.count(3), 2);
        Checks.due("10: waits again", x.maker(1, 1), 1);
        Checks.due("10: done, count, sum", x.taker(0, 2) + x.taker(0, 5) + x.taker(0, 6), 0);
        Checks.due("10: undo() of gaps", x.undo(), 2);
        Checks.due("10: open again", x.event(1, 0), 0);
        Checks.due("10: cursor", x.count(4), 1);
        Checks.due("10: undo() of fills", x.undo(), 1);
        Checks.due("10: open again, too", x.event(0, 0), 0);
        Checks.due("10: its maker", x.event(0, 1), 0);
        Checks.due("10: cursor at 0", x.count(4), 0);
        Checks.due("10: fills again", x.fills(0, 3), 1);
        Checks.due("10: its value", x.event(0, 2), 3);

        NumberedRings again = Checks.told("slots 4;maker 1;maker 2;");
        again.claims(0, 1);
        again.claims(0, 1);
        again.gaps(1);
        again.undo();
        again.undo();
        Checks.due("10: fills ahead of what was undone", again.fills(0, 1), 1);
        Checks.due("10: claims by another", again.claims(1, 2), 1);
        Checks.due("10: it is open", again.event(1, 0), 0);
        Checks.due("10: of the other", again.event(1, 1), 1);
        again.fills(1, 1);
        again.gaps(2);
        Checks.due("10: cursor at the end", again.count(4), 3);
    }

    private static void refusedIsNotUndone() {
        NumberedRings x = Checks.told("slots 2;maker 1;taker 1 0;");
        x.claims(0, 1);
        x.claims(0, 10);
        x.fills(0, 100);
        x.fills(1, 0);
        x.gaps(1);
        x.takes(0, 1);
        x.calls(0);
        x.sees(0, 0);
        x.keep(0);
        Checks.due("10: count(10)", x.count(10), 1);
        Checks.due("10: undo()", x.undo(), 0);
        Checks.due("10: claimed", x.count(3), 0);
        Checks.due("10: seen stays", x.count(8), 1);
        Checks.due("10: the image stays", x.back(0), 1);
    }
}
