/** Promises 23 to 25: keep, back, count. */
public final class ImagesTest {
    public static void main(String[] args) {
        refusals();
        keepAndBack();
        nothingElseIsKept();
        twoImages();
        countBad();
        Checks.end();
    }

    private static void refusals() {
        NumberedRings x = new NumberedRings();
        int[] bad = {-1, 2, Integer.MIN_VALUE, Integer.MAX_VALUE};
        for (int image : bad) {
            Checks.due("23: keep(" + image + ")", x.keep(image), -1);
            Checks.due("24: back(" + image + ")", x.back(image), -1);
        }
        Checks.due("24: back(0)", x.back(0), -2);
        Checks.due("24: back(1)", x.back(1), -2);
        Checks.due("23: keep(1)", x.keep(1), 0);
        Checks.due("24: back(0) yet", x.back(0), -2);
        Checks.due("24: back(1) of it", x.back(1), 0);
    }

    private static void keepAndBack() {
        NumberedRings x = Checks.told("slots 4;maker 1;maker 2;taker 1 0;");
        x.claims(0, 4);
        x.fills(0, 10);
        x.gaps(1);
        x.takes(0, 1);
        x.claims(1, 3);
        Checks.due("23: keep(0)", x.keep(0), 4);
        Checks.due("23: nothing is lost by it", x.count(10), 5);
        x.fills(2, 77);
        x.fills(3, 78);
        x.takes(0, 3);
        Checks.due("23: let in", x.count(3), 7);
        x.claims(0, 9);
        Checks.due("24: back(0)", x.back(0), 4);
        Checks.due("24: undo()", x.undo(), -2);
        int[] counts = {4, 2, 1, 4, 2, 1, 1, 1, 0, 0, 0};
        for (int what = 0; what < counts.length; what++) {
            Checks.due("24: count(" + what + ")", x.count(what), counts[what]);
        }
        int[] kinds = {1, 2, 0, 0};
        for (int number = 0; number < 4; number++) {
            Checks.due("24: event(" + number + ", 0)", x.event(number, 0), kinds[number]);
            Checks.due("24: event(" + number + ", 1)", x.event(number, 1), 0);
        }
        Checks.due("24: value of 0", x.event(0, 2), 10);
        Checks.due("24: sum", x.taker(0, 6), 10);
        Checks.due("24: count", x.taker(0, 5), 1);
        Checks.due("24: maker 1 waits", x.maker(1, 1) * 10 + x.maker(1, 2), 30);
        Checks.due("24: maker 0 does not", x.maker(0, 1), 0);
        Checks.due("24: back(0) again", x.back(0), 4);
    }

    private static void nothingElseIsKept() {
        NumberedRings x = Checks.told("maker 1;taker 1 0;");
        x.claims(0, 1);
        x.sees(0, 0);
        Checks.typeAll(x, "ma");
        x.keep(0);
        x.sees(0, 1);
        x.type('k');
        x.back(0);
        Checks.due("24: seen", x.count(8), 2);
        Checks.due("24: letters", x.count(9), 3);
    }

    private static void twoImages() {
        NumberedRings x = Checks.told("maker 1;");
        x.claims(0, 1);
        x.keep(0);
        x.claims(0, 2);
        x.keep(1);
        x.claims(0, 3);
        Checks.due("24: back(0)", x.back(0), 1);
        Checks.due("24: back(1)", x.back(1), 3);
        x.gaps(0);
        Checks.due("23: keep(1) anew", x.keep(1), 3);
        Checks.due("24: back(0) again", x.back(0), 1);
        Checks.due("24: open there", x.event(0, 0), 0);
        Checks.due("24: back(1) again", x.back(1), 3);
        Checks.due("24: a gap there", x.event(0, 0), 2);
    }

    private static void countBad() {
        NumberedRings x = Checks.told("slots 5;maker 1;maker 2;maker 3;taker 1 0;taker 1 1;");
        Checks.due("25: count(-1)", x.count(-1), -1);
        Checks.due("25: count(11)", x.count(11), -1);
        Checks.due("25: count(min)", x.count(Integer.MIN_VALUE), -1);
        x.claims(0, 4);
        x.fills(0, 1);
        x.gaps(1);
        x.takes(0, 2);
        x.takes(1, 1);
        x.claims(1, 3);
        x.claims(2, 1);
        x.sees(1, 1);
        x.type(32);
        x.type(33);
        x.type(34);
        int[] due = {5, 3, 2, 4, 2, 1, 2, 2, 1, 3, 6};
        for (int what = 0; what < due.length; what++) {
            Checks.due("25: count(" + what + ")", x.count(what), due[what]);
        }
    }
}
