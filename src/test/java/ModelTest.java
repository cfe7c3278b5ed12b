import java.util.Random;

/** Runs of calls from fixed seeds: NumberedRings answers as PlainModel does. */
public final class ModelTest {
    private static final int RUNS = 400;
    private static final int CALLS = 512;
    /** A text is told only where its calls don't go beyond the last one. */
    private static final int CALLS_OF_A_TEXT = 150;
    private static final String[] PIECES = {"slots", "maker", "taker", ";", " ", "0", "1", "3", "9", "16", "17", "99",
        "100", "00", "x", "makers", "A", "\t", ":", "{", "`", "/", "@"};

    private final Random random;
    private final String run;
    private final NumberedRings x = new NumberedRings();
    private final PlainModel model = new PlainModel();
    private int calls;

    private ModelTest(int seed) {
        random = new Random(seed);
        run = "run " + seed + ", call ";
    }

    public static void main(String[] args) {
        for (int seed = 0; seed < RUNS; seed++) {
            new ModelTest(seed).runCalls();
        }
        Checks.end();
    }

    private void runCalls() {
        boolean many = random.nextInt(8) == 0;
        tellText(many ? "slots 16;maker 9;maker 9;maker 7;" : goodText());
        while (calls < CALLS) {
            int kind = random.nextInt(100);
            if (many && kind < 80) {
                claims();
            } else if (kind < 1 && calls + CALLS_OF_A_TEXT <= CALLS) {
                textCalls();
            } else if (kind < 60) {
                doCall();
            } else if (kind < 64) {
                due("undo()", x.undo(), model.undo());
            } else if (kind < 94) {
                ask();
            } else {
                askAboutWhich();
            }
        }
    }

    private void due(String call, int got, int want) {
        calls++;
        Checks.due(run + calls + ": " + call, got, want);
    }

    private int below(int limit) {
        return random.nextInt(limit);
    }

    private String goodText() {
        StringBuilder text = new StringBuilder();
        int makers = below(4);
        int takers = below(7);
        int takersTold = 0;
        boolean slotsTold = false;
        for (int i = 0; i < 12; i++) {
            int what = below(3);
            if (what == 0 && !slotsTold && below(3) == 0) {
                text.append("slots ").append(2 + below(15)).append(";");
                slotsTold = true;
            } else if (what == 1 && makers > 0) {
                text.append("maker").append(below(2) == 0 ? " " : "").append(below(10)).append(" ;".substring(below(2)));
                makers--;
            } else if (what == 2 && takersTold < takers) {
                text.append("taker ").append(1 + below(9)).append(" ");
                text.append(below(1 << takersTold) & below(1 << takersTold)).append(";");
                takersTold++;
            }
        }
        return text.toString();
    }

    private String spoilt(String text) {
        StringBuilder spoilt = new StringBuilder(text);
        for (int i = below(3); i >= 0; i--) {
            int place = below(spoilt.length() + 1);
            switch (below(3)) {
                case 0 -> spoilt.insert(place, PIECES[below(PIECES.length)]);
                case 1 -> spoilt.delete(place, Math.min(spoilt.length(), place + 1 + below(3)));
                default -> spoilt.setLength(place);
            }
        }
        return spoilt.toString();
    }

    private void tellText(String text) {
        for (int i = 0; i < text.length(); i++) {
            due("type(" + (int) text.charAt(i) + ")", x.type(text.charAt(i)), model.type(text.charAt(i)));
        }
        due("tells() of \"" + text + "\"", x.tells(), model.tells());
        due("count(9)", x.count(9), model.count(9));
    }

    private void textCalls() {
        int letter = below(300) - 20;
        switch (below(4)) {
            case 0 -> due("type(" + letter + ")", x.type(letter), model.type(letter));
            case 1 -> {
                due("clear()", x.clear(), model.clear());
                tellText(goodText());
            }
            default -> {
                due("clear()", x.clear(), model.clear());
                tellText(spoilt(goodText()));
            }
        }
    }

    private void claims() {
        int maker = below(16) == 0 ? below(6) - 1 : below(3);
        int n = below(16) == 0 ? below(13) - 1 : 1 + below(9);
        due("claims(" + maker + ", " + n + ")", x.claims(maker, n), model.claims(maker, n));
    }

    private void doCall() {
        int claimed = model.count(3);
        int number = below(12) == 0 ? below(claimed + 3) - 1 : Math.min(model.count(4) + below(4), claimed);
        int maker = below(5) - 1;
        int taker = below(20) == 0 ? below(9) - 1 : below(Math.max(1, model.count(2)));
        int n = below(16) == 0 ? below(20) - 1 : 1 + below(6);
        int v = below(16) == 0 ? below(140) - 20 : below(100);
        int image = below(8) == 0 ? below(5) - 1 : below(2);
        switch (below(24)) {
            case 0, 1, 2, 3, 4 -> claims();
            case 5, 6, 7, 8, 9, 10 -> due("fills(" + number + ", " + v + ")", x.fills(number, v), model.fills(number, v));
            case 11, 12 -> due("gaps(" + number + ")", x.gaps(number), model.gaps(number));
            case 13, 14, 15, 16, 17, 18, 19, 20 -> due("takes(" + taker + ", " + n + ")", x.takes(taker, n), model.takes(taker, n));
            case 21 -> due("calls(" + maker + ")", x.calls(maker), model.calls(maker));
            case 22 -> due("keep(" + image + ")", x.keep(image), model.keep(image));
            default -> {
                if (below(3) == 0) {
                    due("back(" + image + ")", x.back(image), model.back(image));
                }
            }
        }
    }

    private void ask() {
        int number = below(12) == 0 ? below(1100) - 20 : below(model.count(3) + 1);
        int what = below(9) - 1;
        int maker = below(5) - 1;
        int taker = below(8) - 1;
        int m = below(16) == 0 ? below(70) - 4 : below(20);
        switch (below(10)) {
            case 0 -> due("event(" + number + ", " + what + ")", x.event(number, what), model.event(number, what));
            case 1 -> due("taker(" + taker + ", " + what + ")", x.taker(taker, what), model.taker(taker, what));
            case 2 -> due("maker(" + maker + ", " + what + ")", x.maker(maker, what), model.maker(maker, what));
            case 3, 4 -> due("blamed()", x.blamed(), model.blamed());
            case 5 -> {
                if (model.stepsSpace() <= 2000) {
                    due("steps()", x.steps(), model.steps());
                }
            }
            case 6 -> due("rule(" + m + ", " + what + ")", x.rule(m, what), model.rule(m, what));
            case 7 -> due("waited(" + m + ", " + maker + ")", x.waited(m, maker), model.waited(m, maker));
            case 8 -> due("done(" + m + ", " + taker + ")", x.done(m, taker), model.done(m, taker));
            default -> {
                int counted = below(13) - 1;
                due("count(" + counted + ")", x.count(counted), model.count(counted));
            }
        }
    }

    private void askAboutWhich() {
        int t = below(16) == 0 ? below(70) - 4 : below(8);
        int d = below(16) == 0 ? below(10100) - 50 : Math.max(0, model.done(Math.max(0, Math.min(60, t)), below(6)));
        switch (below(8)) {
            case 0, 1, 2 -> due("sees(" + t + ", " + d + ")", x.sees(t, d), model.sees(t, d));
            case 3 -> due("forget()", x.forget(), model.forget());
            case 4, 5 -> due("which()", x.which(), model.which());
            default -> due("look()", x.look(), model.look());
        }
    }
}
