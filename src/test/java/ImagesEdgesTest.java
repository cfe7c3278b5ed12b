/** The edges that promises 23 to 25 name: no image, two images, an empty and a full one, what an image has not. */
public final class ImagesEdgesTest {
    public static void main(String[] args) {
        imagesZeroAndOne();
        noneWasKept();
        anEmptyImage();
        aSmallerImage();
        aFullImage();
        anImageStays();
        backIsAllOfTwo();
        nothingIsUndoneBehindBack();
        imagesAreGone();
        counts();
        countsOfAll();
        Checks.end();
    }

    /** "IMAGES 0, 1"; "BAD" */
    private static void imagesZeroAndOne() {
        for (int image = -3; image <= 4; image++) {
            NumberedRings x = Checks.told("maker 1;");
            x.claims(0, 7);
            boolean fits = image == 0 || image == 1;
            Checks.due("23: keep(" + image + ")", x.keep(image), fits ? 7 : -1);
            Checks.due("24: back(" + image + ")", x.back(image), fits ? 7 : -1);
            Checks.due("24: back(0)", x.back(0), image == 0 ? 7 : -2);
            Checks.due("24: back(1)", x.back(1), image == 1 ? 7 : -2);
        }
    }

    /** "STATE: none was kept" */
    private static void noneWasKept() {
        Scene scene = new Scene("no image").thenTold("maker 1;taker 1 0;").then(Call.claims(0, 2), Call.fills(0, 3));
        scene.leaves(Call.back(0), -2);
        scene.leaves(Call.back(1), -2);
        scene.then(Call.keep(1));
        scene.leaves(Call.back(0), -2);
        Checks.due("24: back(1), it was kept", scene.answers(Call.back(1)), 2);
    }

    private static void anEmptyImage() {
        Scene empty = new Scene("told and empty").thenTold("slots 4;maker 1;maker 2;taker 1 0;taker 1 1;").then(Call.keep(0));
        Scene again = empty.copy("empty again by back(0)").then(Call.claims(0, 4), Call.fills(0, 5), Call.gaps(1),
                Call.takes(0, 2), Call.takes(1, 1), Call.claims(0, 9), Call.claims(1, 1), Call.back(0));
        again.sameAs(empty);
        Checks.due("23: keep(1) of nothing", again.answers(Call.keep(1)), 0);
        Checks.due("23: keep(0) of a new object", new NumberedRings().keep(0), 0);
    }

    /** What was CLAIMED behind an image is not CLAIMED any more, whatever had become of it. */
    private static void aSmallerImage() {
        NumberedRings x = Checks.told("slots 9;maker 1;maker 2;taker 1 0;");
        x.claims(0, 2);
        x.keep(0);
        x.claims(0, 3);
        x.gaps(2);
        x.fills(3, 33);
        x.fills(4, 44);
        Checks.due("24: back(0)", x.back(0), 2);
        Checks.due("11: event(2, 0), not CLAIMED", x.event(2, 0), -1);
        Checks.due("6: fills(1, 1)", x.fills(1, 1), 0);
        Checks.due("6: fills(0, 1), CURSOR is CLAIMED", x.fills(0, 1), 2);
        Checks.due("8: takes(0, 16)", x.takes(0, 16), 2);
        Checks.due("5: claims(1, 2)", x.claims(1, 2), 2);
        Checks.due("11: 2 is OPEN", x.event(2, 0), 0);
        Checks.due("11: of the other maker", x.event(3, 1), 1);
        Checks.due("11: without a VALUE", x.event(3, 2), -9);
        Checks.due("25: CURSOR", x.count(4), 2);
        Checks.due("8: takes(0, 1)", x.takes(0, 1), -2);
    }

    private static void aFullImage() {
        NumberedRings x = Checks.told("slots 8;maker 1;maker 2;maker 3;");
        Checks.due("23: keep(0)", x.keep(0), 0);
        for (int i = 0; i < 122; i++) {
            x.claims(i % 3, 8);
        }
        x.fills(975, 99);
        x.gaps(974);
        x.claims(2, 9);
        x.claims(0, 9);
        x.claims(1, 5);
        Checks.due("23: keep(1) of a full one", x.keep(1), 976);
        Checks.due("24: back(0) to an empty one", x.back(0), 0);
        Checks.due("25: nobody waits", x.count(7), 0);
        Checks.due("11: event(0, 0)", x.event(0, 0), -1);
        Checks.due("5: claims(0, 1)", x.claims(0, 1), 0);
        Checks.due("7: gaps(0)", x.gaps(0), 1);
        Checks.due("24: back(1) to the full one", x.back(1), 976);
        Checks.due("11: 0 is OPEN", x.event(0, 0), 0);
        Checks.due("11: VALUE of the last", x.event(975, 2), 99);
        Checks.due("11: the GAP ahead of it", x.event(974, 0), 2);
        Checks.due("11: MAKER of the last", x.event(975, 1), 121 % 3);
        Checks.due("25: all three wait", x.count(7), 3);
        Checks.due("13: in their order", x.maker(2, 2) * 100 + x.maker(0, 2) * 10 + x.maker(1, 2), 12);
        Checks.due("13: for as many", x.maker(2, 1) * 100 + x.maker(0, 1) * 10 + x.maker(1, 1), 995);
        Checks.due("5: claims(1, 1)", x.claims(1, 1), -2);
        Checks.due("9: calls(2)", x.calls(2), 9);
    }

    /** An image is not changed by what comes behind it, back() and undo() too; but by keep() anew. */
    private static void anImageStays() {
        NumberedRings x = Checks.told("slots 4;maker 1;taker 1 0;");
        x.claims(0, 2);
        x.keep(0);
        x.keep(1);
        x.gaps(0);
        x.undo();
        x.undo();
        Checks.due("10: undo() does not stop at an image", x.count(3), 0);
        Checks.due("24: back(0)", x.back(0), 2);
        x.fills(0, 9);
        x.takes(0, 1);
        x.claims(0, 2);
        Checks.due("24: back(0) once more", x.back(0), 2);
        Checks.due("11: OPEN as it was", x.event(0, 0), 0);
        Checks.due("12: DONE as it was", x.taker(0, 2), 0);
        x.fills(0, 8);
        Checks.due("23: keep(0) anew", x.keep(0), 2);
        Checks.due("24: back(1) is the older", x.back(1), 2);
        Checks.due("11: OPEN there", x.event(0, 0), 0);
        Checks.due("24: back(0) is the newer", x.back(0), 2);
        Checks.due("11: FULL there", x.event(0, 2), 8);
    }

    /** "IMAGES 0, 1 keep all that 2 tells; nothing else" */
    private static void backIsAllOfTwo() {
        Scene kept = new Scene("kept").thenTold("slots 5;maker 2;maker 1;maker 4;taker 2 0;taker 1 1;taker 1 0;")
                .then(Call.claims(0, 3), Call.fills(0, 11), Call.gaps(1), Call.fills(2, 12), Call.claims(2, 2),
                        Call.takes(0, 3), Call.takes(1, 2), Call.takes(2, 1), Call.claims(1, 9), Call.claims(0, 1), Call.keep(0));
        Scene plain = kept.copy("kept, and back at once").then(Call.back(0)).then(Call.sees(0, 3), Call.sees(1, 4)).thenTyped("maker 5");
        Scene far = kept.copy("kept, and back from far").then(Call.sees(0, 3), Call.fills(4, 1), Call.fills(3, 2),
                Call.takes(0, 9), Call.takes(1, 9), Call.takes(2, 9), Call.calls(1), Call.claims(1, 2))
                .thenTyped("maker").then(Call.back(0), Call.sees(1, 4)).thenTyped(" 5");
        far.sameAs(plain);
        NumberedRings x = kept.copy("what else").then(Call.sees(0, 3)).thenTyped("ab").then(Call.back(0)).played();
        Checks.due("24: SEEN is not the image's", x.count(8), 1);
        Checks.due("24: THE TEXT is not the image's", x.count(9), 2);
        Checks.due("20: forget()", x.forget(), 1);
        x.back(0);
        Checks.due("24: SEEN does not come back", x.count(8), 0);
    }

    /** "(nothing can be UNDONE behind back())" */
    private static void nothingIsUndoneBehindBack() {
        NumberedRings x = Checks.told("slots 16;maker 1;");
        for (int i = 0; i < 7; i++) {
            x.claims(0, 1);
        }
        Checks.due("23: keep(0)", x.keep(0), 7);
        Checks.due("25: six may be UNDONE behind keep()", x.count(10), 6);
        Checks.due("24: back(2)", x.back(2), -1);
        Checks.due("24: back(1)", x.back(1), -2);
        Checks.due("25: six behind a back() that was refused", x.count(10), 6);
        Checks.due("24: back(0)", x.back(0), 7);
        Checks.due("25: none behind back()", x.count(10), 0);
        Checks.due("10: undo() behind back()", x.undo(), -2);
        x.claims(0, 2);
        Checks.due("10: undo() of what came behind it", x.undo(), 0);
        Checks.due("25: CLAIMED", x.count(3), 7);
        Checks.due("10: undo() does not undo back()", x.undo(), -2);
    }

    /** "IMAGES are gone", by a text told; not by a text with a fault. */
    private static void imagesAreGone() {
        NumberedRings x = Checks.told("maker 1;");
        x.claims(0, 1);
        x.keep(0);
        x.keep(1);
        x.type('x');
        Checks.due("4: tells(), a fault", x.tells(), -10);
        Checks.due("24: back(0) behind it", x.back(0), 1);
        Checks.due("24: back(1) behind it", x.back(1), 1);
        x.clear();
        Checks.due("24: back(0) behind clear()", x.back(0), 1);
        Checks.due("4: tells()", x.tells(), 0);
        Checks.due("24: back(0) behind tells()", x.back(0), -2);
        Checks.due("24: back(1) behind tells()", x.back(1), -2);
    }

    /** "0 SLOTS .. 10 how many may be UNDONE. BAD." */
    private static void counts() {
        NumberedRings x = new NumberedRings();
        int[] atFirst = {8, 0, 0, 0, 0, 0, 8, 0, 0, 0, 0};
        for (int what = -3; what <= 14; what++) {
            int due = what >= 0 && what <= 10 ? atFirst[what] : -1;
            Checks.due("25: count(" + what + ") of a new object", x.count(what), due);
        }
        Checks.due("25: count(min)", x.count(Integer.MIN_VALUE), -1);
        Checks.due("25: count(max)", x.count(Integer.MAX_VALUE), -1);
    }

    private static void countsOfAll() {
        NumberedRings x = Checks.told("slots 16;maker 1;maker 1;maker 1;" + "taker 9 0;".repeat(6));
        x.claims(0, 9);
        x.claims(1, 7);
        x.claims(0, 9);
        x.claims(1, 9);
        x.claims(2, 9);
        x.gaps(0);
        for (int i = 0; i < 6; i++) {
            x.sees(i, i);
        }
        for (int i = 0; i < 120; i++) {
            x.type(255);
        }
        int[] due = {16, 3, 6, 16, 1, 0, 0, 3, 6, 120, 6};
        for (int what = 0; what <= 10; what++) {
            Checks.due("25: count(" + what + "), all that may be", x.count(what), due[what]);
        }
    }
}
