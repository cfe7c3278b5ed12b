import java.util.ArrayList;
import java.util.List;

/**
 * A run of calls that can be made again and again on new objects, so that two objects with the same past can
 * be compared in all that can be asked of them: as they stand, and behind what brings hidden things to light
 * (what can be undone, the images, the text).
 */
final class Scene {
    private static final int MOST_CALLS = 512;

    private final String name;
    private final List<Call> calls = new ArrayList<>();
    /** What is seen of an object with this past: made once, for it is asked for again and again. */
    private List<List<Integer>> views;

    Scene(String name) {
        this.name = name;
    }

    String name() {
        return name;
    }

    /** The scene goes on by these calls. */
    Scene then(Call... more) {
        calls.addAll(List.of(more));
        views = null;
        return this;
    }

    Scene thenTyped(String text) {
        for (int i = 0; i < text.length(); i++) {
            then(Call.type(text.charAt(i)));
        }
        return this;
    }

    Scene thenTold(String text) {
        return thenTyped(text).then(Call.tells());
    }

    /** Another scene that goes on from here. */
    Scene copy(String newName) {
        return new Scene(newName).then(calls.toArray(new Call[0]));
    }

    NumberedRings played() {
        NumberedRings x = new NumberedRings();
        for (Call call : calls) {
            call.made().applyAsInt(x);
        }
        return x;
    }

    /** What the next call would answer. */
    int answers(Call call) {
        return call.made().applyAsInt(played());
    }

    /** The call answers what is due, and nothing has changed behind it, in whatever way it is looked at. */
    void leaves(Call call, int due) {
        Checks.due(call.name() + " in " + name, answers(call), due);
        copy(name + ", behind " + call.name()).then(call).sameAs(this);
    }

    /** All that can be asked is as in another scene. */
    void sameAs(Scene other) {
        List<List<Integer>> here = views();
        List<List<Integer>> there = other.views();
        for (int i = 0; i < here.size(); i++) {
            if (!here.get(i).equals(there.get(i))) {
                Checks.fail(name + ": not as in " + other.name + ", seen by " + WAYS.get(i).name);
            }
        }
    }

    private List<List<Integer>> views() {
        if (views == null) {
            views = new ArrayList<>();
            for (Scene way : WAYS) {
                views.add(viewBehind(way));
            }
        }
        return views;
    }

    private List<Integer> viewBehind(Scene way) {
        NumberedRings x = played();
        List<Integer> view = new ArrayList<>();
        for (Call call : way.calls) {
            view.add(call.made().applyAsInt(x));
        }
        List<Call> questions = questions(x.count(3));
        for (Call call : questions) {
            view.add(call.made().applyAsInt(x));
        }
        int made = calls.size() + way.calls.size() + 1 + questions.size();
        if (made > MOST_CALLS) {
            Checks.fail(name + ": " + made + " calls of one object are too many for a test");
        }
        return view;
    }

    /** The ways to look: calls ahead of the questions. */
    private static final List<Scene> WAYS = ways();

    private static List<Scene> ways() {
        List<Scene> ways = new ArrayList<>();
        Scene undone = new Scene("what is so now");
        for (int i = 1; i <= 8; i++) {
            ways.add(undone);
            undone = undone.copy("undo() " + i + " times").then(Call.undo());
        }
        for (int image = 0; image < 2; image++) {
            ways.add(new Scene("back(" + image + ")").then(Call.back(image)));
        }
        ways.add(new Scene("tells()").then(Call.tells()));
        ways.add(new Scene("type(59), tells()").then(Call.type(59), Call.tells()));
        return ways;
    }

    private static List<Call> questions(int claimed) {
        List<Call> questions = new ArrayList<>();
        for (int what = 0; what <= 10; what++) {
            questions.add(Call.count(what));
        }
        for (int m = 0; m < 3; m++) {
            for (int what = 0; what <= 3; what++) {
                questions.add(Call.maker(m, what));
            }
            questions.add(Call.waited(9, m));
        }
        for (int t = 0; t < 6; t++) {
            for (int what = 0; what <= 6; what++) {
                questions.add(Call.taker(t, what));
            }
            questions.add(Call.done(9, t));
        }
        for (int number = 0; number < claimed; number++) {
            // Of very many, the first and the last ones.
            if (number < 8 || number > claimed - 5) {
                for (int what = 0; what <= 2; what++) {
                    questions.add(Call.event(number, what));
                }
            }
        }
        for (int what = 0; what <= 3; what++) {
            questions.add(Call.rule(60, what));
        }
        questions.addAll(List.of(Call.blamed(), Call.steps(), Call.which(), Call.look()));
        return questions;
    }
}
