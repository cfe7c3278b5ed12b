import java.util.ArrayList;
import java.util.List;

/**
 * "Refused, and nothing changes, the first of these that is so: BAD (a number is not as told, or there is no
 * such thing), STATE (as told), FULL." Each refusal of each promise, in scenes from empty to full, and each
 * call by which nothing is changed.
 */
public final class RefusedTest {
    private static final int BAD = -1, STATE = -2, FULL = -3, NONE = -9;
    private static final int LOWEST = Integer.MIN_VALUE;
    private static final int HIGHEST = Integer.MAX_VALUE;

    public static void main(String[] args) {
        for (Scene scene : List.of(newObject(), midst(), allWait(), allClaimed(), allSpoken(), takersAlone())) {
            NumberedRings x = scene.played();
            for (Call call : badCalls(x.count(1), x.count(2), x.count(3))) {
                scene.leaves(call, BAD);
            }
            for (Call call : questions()) {
                scene.leaves(call, scene.answers(call));
            }
        }
        refusedWithNothing();
        refusedInTheMidst();
        refusedWhileAllWait();
        refusedAtTheLastNumber();
        takersAloneTakeNothing();
        Checks.end();
    }

    // ---- scenes

    private static Scene newObject() {
        return new Scene("a new object");
    }

    /** Of everything some: events of each kind, one waits, both images, six may be undone, a text too short. */
    private static Scene midst() {
        return new Scene("the midst").thenTold("slots 5;maker 2;maker 0;maker 3;taker 2 0;taker 1 1;taker 3 0;")
                .then(Call.claims(0, 2), Call.keep(1), Call.fills(0, 42), Call.claims(2, 3), Call.gaps(1),
                        Call.takes(0, 2), Call.takes(2, 1), Call.takes(1, 1), Call.keep(0), Call.claims(1, 4),
                        Call.fills(3, 17), Call.sees(0, 2), Call.sees(2, 5))
                .thenTyped("taker 9 0");
    }

    /** THE ROW, THE TEXT, SEEN and what may be UNDONE are full; nothing is OPEN; image 1 was not kept. */
    private static Scene allWait() {
        return new Scene("all wait").thenTold("slots 3;maker 1;maker 9;maker 4;taker 1 0;taker 2 0;")
                .then(Call.claims(2, 3), Call.fills(0, 1), Call.gaps(1), Call.fills(2, 99), Call.takes(0, 3),
                        Call.keep(0), Call.claims(1, 9), Call.claims(0, 1), Call.claims(2, 4))
                .then(Call.sees(0, 0), Call.sees(0, 0), Call.sees(1, 2), Call.sees(2, 3), Call.sees(3, 3), Call.sees(60, 3))
                .thenTyped("slots 4;maker 7;" + " ".repeat(103) + "x");
    }

    /** All 999 are CLAIMED; nobody waits. */
    private static Scene allClaimed() {
        Scene scene = new Scene("999 claimed").thenTold("slots 9;maker 1;maker 2;maker 3;");
        for (int i = 0; i < 111; i++) {
            scene.then(Call.claims(i % 3, 9));
        }
        return scene.then(Call.gaps(0), Call.fills(998, 98), Call.keep(1));
    }

    /** 984 are CLAIMED, and two wait for all that is left. */
    private static Scene allSpoken() {
        Scene scene = new Scene("999 claimed or waited for").thenTold("slots 8;maker 1;maker 2;maker 3;");
        for (int i = 0; i < 123; i++) {
            scene.then(Call.claims(i % 3, 8));
        }
        return scene.then(Call.claims(1, 9), Call.claims(0, 6));
    }

    private static Scene takersAlone() {
        return new Scene("takers alone").thenTold("taker 1 0;taker 9 1;taker 1 2;taker 1 4;taker 1 8;taker 1 31;");
    }

    // ---- BAD, whatever the scene

    private static List<Call> badCalls(int makers, int takers, int claimed) {
        List<Call> calls = new ArrayList<>();
        badOfText(calls);
        badOfDone(calls, makers, takers, claimed);
        badOfAsked(calls, makers, takers, claimed);
        badOfTicks(calls, makers, takers);
        badOfImages(calls);
        return calls;
    }

    private static int[] outside(int least, int greatest) {
        return new int[] {LOWEST, least - 1, greatest + 1, HIGHEST};
    }

    private static void badOfText(List<Call> calls) {
        for (int letter : outside(0, 255)) {
            calls.add(Call.type(letter));
        }
    }

    private static void badOfDone(List<Call> calls, int makers, int takers, int claimed) {
        for (int maker : outside(0, makers - 1)) {
            calls.add(Call.claims(maker, 1));
            calls.add(Call.claims(maker, 9));
            calls.add(Call.calls(maker));
        }
        for (int n : outside(1, 9)) {
            // A maker that waits (STATE), a claim too many (FULL): BAD comes first.
            for (int maker = 0; maker < 3; maker++) {
                calls.add(Call.claims(maker, n));
            }
        }
        for (int number : outside(0, claimed - 1)) {
            calls.add(Call.fills(number, 0));
            calls.add(Call.fills(number, 99));
            calls.add(Call.gaps(number));
        }
        for (int v : outside(0, 99)) {
            // Open or not (STATE): BAD comes first.
            for (int number = 0; number < 5; number++) {
                calls.add(Call.fills(number, v));
            }
            calls.add(Call.fills(claimed - 1, v));
        }
        for (int taker : outside(0, takers - 1)) {
            calls.add(Call.takes(taker, 1));
            calls.add(Call.takes(taker, 16));
        }
        for (int n : outside(1, 16)) {
            // Something ahead or not (STATE): BAD comes first.
            for (int taker = 0; taker < 6; taker++) {
                calls.add(Call.takes(taker, n));
            }
        }
    }

    private static void badOfAsked(List<Call> calls, int makers, int takers, int claimed) {
        for (int number : outside(0, claimed - 1)) {
            calls.add(Call.event(number, 0));
            calls.add(Call.event(number, 2));
        }
        for (int what : outside(0, 2)) {
            calls.add(Call.event(0, what));
            calls.add(Call.event(claimed - 1, what));
        }
        for (int taker : outside(0, takers - 1)) {
            calls.add(Call.taker(taker, 0));
            calls.add(Call.taker(taker, 6));
        }
        for (int what : outside(0, 6)) {
            calls.add(Call.taker(0, what));
        }
        for (int maker : outside(0, makers - 1)) {
            calls.add(Call.maker(maker, 0));
            calls.add(Call.maker(maker, 3));
        }
        for (int what : outside(0, 3)) {
            calls.add(Call.maker(0, what));
        }
        for (int what : outside(0, 10)) {
            calls.add(Call.count(what));
        }
    }

    private static void badOfTicks(List<Call> calls, int makers, int takers) {
        for (int m : outside(0, 60)) {
            for (int what = 0; what <= 3; what++) {
                calls.add(Call.rule(m, what));
            }
            calls.add(Call.waited(m, 0));
            calls.add(Call.done(m, 0));
            calls.add(Call.sees(m, 0));
        }
        for (int what : outside(0, 3)) {
            calls.add(Call.rule(0, what));
            calls.add(Call.rule(60, what));
        }
        for (int maker : outside(0, makers - 1)) {
            calls.add(Call.waited(0, maker));
            calls.add(Call.waited(60, maker));
        }
        for (int taker : outside(0, takers - 1)) {
            calls.add(Call.done(0, taker));
            calls.add(Call.done(60, taker));
        }
        for (int d : outside(0, 9999)) {
            calls.add(Call.sees(0, d));
            calls.add(Call.sees(60, d));
        }
    }

    private static void badOfImages(List<Call> calls) {
        for (int image : outside(0, 1)) {
            calls.add(Call.keep(image));
            calls.add(Call.back(image));
        }
    }

    /** "(Nothing is changed.)" */
    private static List<Call> questions() {
        List<Call> calls = new ArrayList<>();
        for (int what = 0; what <= 10; what++) {
            calls.add(Call.count(what));
        }
        for (int what = 0; what <= 6; what++) {
            calls.add(Call.event(0, what));
            calls.add(Call.taker(1, what));
            calls.add(Call.maker(2, what));
            calls.add(Call.rule(60, what));
        }
        calls.addAll(List.of(Call.rule(1, 0), Call.waited(60, 1), Call.done(60, 1), Call.blamed(), Call.steps(),
                Call.which(), Call.look()));
        return calls;
    }

    // ---- STATE and FULL, scene by scene

    private static void refusedWithNothing() {
        Scene empty = newObject();
        empty.leaves(Call.undo(), STATE);
        empty.leaves(Call.back(0), STATE);
        empty.leaves(Call.back(1), STATE);
        empty.leaves(Call.clear(), 0);
        empty.leaves(Call.tells(), 0);
        empty.leaves(Call.forget(), 0);
    }

    private static void refusedInTheMidst() {
        Scene midst = midst();
        Checks.due("10: six may be undone in the midst", midst.answers(Call.count(10)), 6);
        for (int n = 1; n <= 9; n++) {
            midst.leaves(Call.claims(1, n), STATE);
        }
        for (int number : new int[] {0, 1, 3}) {
            midst.leaves(Call.fills(number, 0), STATE);
            midst.leaves(Call.fills(number, 99), STATE);
            midst.leaves(Call.gaps(number), STATE);
        }
        midst.leaves(Call.takes(0, 1), STATE);
        midst.leaves(Call.takes(0, 16), STATE);
        midst.leaves(Call.calls(0), STATE);
        midst.leaves(Call.calls(2), STATE);
        // "-10 less FAULT: nothing changes, THE TEXT stays."
        midst.leaves(Call.tells(), -10 - 9);
        Scene lessUndone = midst;
        for (int more = 5; more >= 0; more--) {
            Checks.due("10: undo() in the midst", lessUndone.answers(Call.undo()), more);
            lessUndone = lessUndone.copy("the midst, " + more + " left to undo").then(Call.undo());
        }
        lessUndone.leaves(Call.undo(), STATE);
        midst.copy("the midst by back()").then(Call.keep(0), Call.back(0)).leaves(Call.undo(), STATE);
    }

    private static void refusedWhileAllWait() {
        Scene all = allWait();
        all.leaves(Call.type(0), FULL);
        all.leaves(Call.type(32), FULL);
        all.leaves(Call.type(255), FULL);
        all.leaves(Call.tells(), -10 - 119);
        for (int maker = 0; maker < 3; maker++) {
            all.leaves(Call.claims(maker, 1), STATE);
            all.leaves(Call.claims(maker, 9), STATE);
            all.leaves(Call.fills(maker, 50), STATE);
            all.leaves(Call.gaps(maker), STATE);
        }
        all.leaves(Call.takes(0, 1), STATE);
        all.leaves(Call.takes(0, 16), STATE);
        all.leaves(Call.sees(0, 0), FULL);
        all.leaves(Call.sees(60, 9999), FULL);
        all.leaves(Call.back(1), STATE);
        all.copy("all wait by back()").then(Call.keep(1), Call.back(1)).leaves(Call.undo(), STATE);
    }

    private static void refusedAtTheLastNumber() {
        Scene claimed = allClaimed();
        for (int maker = 0; maker < 3; maker++) {
            claimed.leaves(Call.claims(maker, 1), FULL);
            claimed.leaves(Call.claims(maker, 9), FULL);
            claimed.leaves(Call.calls(maker), STATE);
        }
        claimed.leaves(Call.fills(0, 1), STATE);
        claimed.leaves(Call.gaps(998), STATE);
        claimed.leaves(Call.back(0), STATE);
        Scene spoken = allSpoken();
        for (int n = 1; n <= 9; n++) {
            spoken.leaves(Call.claims(2, n), FULL);
            // It waits already, and there would be too many: STATE comes first.
            spoken.leaves(Call.claims(0, n), STATE);
            spoken.leaves(Call.claims(1, n), STATE);
        }
        spoken.leaves(Call.calls(2), STATE);
    }

    private static void takersAloneTakeNothing() {
        Scene takers = takersAlone();
        for (int taker = 0; taker < 6; taker++) {
            takers.leaves(Call.takes(taker, 1), STATE);
            takers.leaves(Call.takes(taker, 16), STATE);
        }
        takers.leaves(Call.blamed(), NONE);
    }
}
