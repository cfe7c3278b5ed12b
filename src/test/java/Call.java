import java.util.function.ToIntFunction;

/** A call that can be made on any object; its name begins with the promise that it belongs to. */
record Call(String name, ToIntFunction<NumberedRings> made) {

    private static Call of(String name, ToIntFunction<NumberedRings> made, int... arguments) {
        StringBuilder whole = new StringBuilder(name).append('(');
        for (int i = 0; i < arguments.length; i++) {
            whole.append(i == 0 ? "" : ", ").append(arguments[i]);
        }
        return new Call(whole.append(')').toString(), made);
    }

    static Call type(int letter) {
        return of("2: type", x -> x.type(letter), letter);
    }

    static Call clear() {
        return of("3: clear", NumberedRings::clear);
    }

    static Call tells() {
        return of("4: tells", NumberedRings::tells);
    }

    static Call claims(int maker, int n) {
        return of("5: claims", x -> x.claims(maker, n), maker, n);
    }

    static Call fills(int number, int v) {
        return of("6: fills", x -> x.fills(number, v), number, v);
    }

    static Call gaps(int number) {
        return of("7: gaps", x -> x.gaps(number), number);
    }

    static Call takes(int taker, int n) {
        return of("8: takes", x -> x.takes(taker, n), taker, n);
    }

    static Call calls(int maker) {
        return of("9: calls", x -> x.calls(maker), maker);
    }

    static Call undo() {
        return of("10: undo", NumberedRings::undo);
    }

    static Call event(int number, int what) {
        return of("11: event", x -> x.event(number, what), number, what);
    }

    static Call taker(int t, int what) {
        return of("12: taker", x -> x.taker(t, what), t, what);
    }

    static Call maker(int m, int what) {
        return of("13: maker", x -> x.maker(m, what), m, what);
    }

    static Call blamed() {
        return of("14: blamed", NumberedRings::blamed);
    }

    static Call steps() {
        return of("15: steps", NumberedRings::steps);
    }

    static Call rule(int m, int what) {
        return of("16: rule", x -> x.rule(m, what), m, what);
    }

    static Call waited(int m, int maker) {
        return of("17: waited", x -> x.waited(m, maker), m, maker);
    }

    static Call done(int m, int taker) {
        return of("18: done", x -> x.done(m, taker), m, taker);
    }

    static Call sees(int t, int d) {
        return of("19: sees", x -> x.sees(t, d), t, d);
    }

    static Call forget() {
        return of("20: forget", NumberedRings::forget);
    }

    static Call which() {
        return of("21: which", NumberedRings::which);
    }

    static Call look() {
        return of("22: look", NumberedRings::look);
    }

    static Call keep(int image) {
        return of("23: keep", x -> x.keep(image), image);
    }

    static Call back(int image) {
        return of("24: back", x -> x.back(image), image);
    }

    static Call count(int what) {
        return of("25: count", x -> x.count(what), what);
    }
}
