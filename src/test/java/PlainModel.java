import java.util.ArrayDeque;
import java.util.ArrayList;
import java.util.Deque;
import java.util.HashMap;
import java.util.HashSet;
import java.util.List;
import java.util.Map;
import java.util.Set;
import java.util.regex.Matcher;
import java.util.regex.Pattern;

/**
 * The document followed word by word, with whole copies and searches where NumberedRings counts: every
 * event is held, what is undone is a copy of all, STEPS are searched for, BY RULE fills event by event.
 */
final class PlainModel {
    private static final int BAD = -1, STATE = -2, FULL = -3, NONE = -9;

    private static final class Event {
        final int maker;
        int kind;
        int value;

        Event(int maker, int kind, int value) {
            this.maker = maker;
            this.kind = kind;
            this.value = value;
        }
    }

    private record Wait(int maker, int n) {
    }

    private record Taker(int speed, Set<Integer> behind) {
    }

    private record Sight(int t, int d) {
    }

    /** All that 2 tells. */
    private static final class World {
        final List<Event> events = new ArrayList<>();
        final List<Wait> row = new ArrayList<>();
        final int[] done = new int[6];
        final int[] count = new int[6];
        final long[] sum = new long[6];

        World copy() {
            World w = new World();
            for (Event e : events) {
                w.events.add(new Event(e.maker, e.kind, e.value));
            }
            w.row.addAll(row);
            System.arraycopy(done, 0, w.done, 0, 6);
            System.arraycopy(count, 0, w.count, 0, 6);
            System.arraycopy(sum, 0, w.sum, 0, 6);
            return w;
        }
    }

    private final StringBuilder text = new StringBuilder();
    private int slots = 8;
    private List<Integer> makers = new ArrayList<>();
    private List<Taker> takers = new ArrayList<>();
    private World now = new World();
    private final Deque<World> past = new ArrayDeque<>();
    private final World[] images = new World[2];
    private final List<Sight> seen = new ArrayList<>();

    int type(int letter) {
        if (letter < 0 || letter > 255) {
            return BAD;
        }
        if (text.length() == 120) {
            return FULL;
        }
        text.append((char) letter);
        return text.length();
    }

    int clear() {
        int had = text.length();
        text.setLength(0);
        return had;
    }

    private record Token(int place, String text) {
        boolean isNumber() {
            return text.matches("0|[1-9][0-9]?");
        }
    }

    private List<Token> tokens() {
        List<Token> tokens = new ArrayList<>();
        Matcher matcher = Pattern.compile("[a-z]+|[0-9]+|[^ ]", Pattern.DOTALL).matcher(text);
        while (matcher.find()) {
            tokens.add(new Token(matcher.start(), matcher.group()));
        }
        tokens.add(new Token(text.length(), ""));
        return tokens;
    }

    int tells() {
        int newSlots = 0;
        List<Integer> newMakers = new ArrayList<>();
        List<Taker> newTakers = new ArrayList<>();
        int items = 0;
        // What the item at hand has so far: its word, then its numbers.
        String word = "";
        List<Integer> numbers = new ArrayList<>();
        for (Token token : tokens()) {
            boolean fits;
            int wanted = word.equals("taker") ? 2 : 1;
            if (word.isEmpty()) {
                fits = token.text.equals("slots") && newSlots == 0
                        || token.text.equals("maker") && newMakers.size() < 3
                        || token.text.equals("taker") && newTakers.size() < 6;
                if (token.text.isEmpty()) {
                    break;
                }
                word = token.text;
            } else if (numbers.size() < wanted) {
                fits = token.isNumber() && mayBe(word, numbers.size(), Integer.parseInt(token.text), newTakers.size());
                if (fits) {
                    numbers.add(Integer.parseInt(token.text));
                }
            } else {
                fits = token.text.equals(";");
                if (fits) {
                    items++;
                    if (word.equals("slots")) {
                        newSlots = numbers.get(0);
                    } else if (word.equals("maker")) {
                        newMakers.add(numbers.get(0));
                    } else {
                        newTakers.add(new Taker(numbers.get(0), bits(numbers.get(1))));
                    }
                    word = "";
                    numbers.clear();
                }
            }
            if (!fits) {
                return -10 - token.place;
            }
        }
        slots = newSlots == 0 ? 8 : newSlots;
        makers = newMakers;
        takers = newTakers;
        now = new World();
        past.clear();
        images[0] = null;
        images[1] = null;
        seen.clear();
        text.setLength(0);
        return items;
    }

    private static boolean mayBe(String word, int which, int number, int ahead) {
        if (word.equals("slots")) {
            return number >= 2 && number <= 16;
        }
        if (word.equals("maker")) {
            return number <= 9;
        }
        if (which == 0) {
            return number >= 1 && number <= 9;
        }
        return bits(number).stream().allMatch(t -> t < ahead);
    }

    private static Set<Integer> bits(int number) {
        Set<Integer> set = new HashSet<>();
        for (int i = 0; i < 31; i++) {
            if ((number >> i) % 2 == 1) {
                set.add(i);
            }
        }
        return set;
    }

    private int cursor(World w) {
        int cursor = 0;
        while (cursor < w.events.size() && w.events.get(cursor).kind != 0) {
            cursor++;
        }
        return cursor;
    }

    private int atMost(World w, int t) {
        return takers.get(t).behind.stream().mapToInt(b -> w.done[b]).min().orElse(cursor(w));
    }

    private int least(World w) {
        int least = Integer.MAX_VALUE;
        for (int t = 0; t < takers.size(); t++) {
            least = Math.min(least, w.done[t]);
        }
        return takers.isEmpty() ? w.events.size() : least;
    }

    private int room(World w) {
        return slots + least(w) - w.events.size();
    }

    private static int placeOf(World w, int maker) {
        for (int i = 0; i < w.row.size(); i++) {
            if (w.row.get(i).maker == maker) {
                return i;
            }
        }
        return NONE;
    }

    private int claim(World w, int maker, int n) {
        if (w.row.isEmpty() && n <= room(w)) {
            return put(w, maker, n);
        }
        w.row.add(new Wait(maker, n));
        return NONE;
    }

    private static int put(World w, int maker, int n) {
        int first = w.events.size();
        for (int i = 0; i < n; i++) {
            w.events.add(new Event(maker, 0, 0));
        }
        return first;
    }

    private void letIn(World w) {
        while (!w.row.isEmpty() && w.row.get(0).n <= room(w)) {
            Wait first = w.row.remove(0);
            put(w, first.maker, first.n);
        }
    }

    private int take(World w, int t, int n) {
        int over = 0;
        while (over < n && w.done[t] < atMost(w, t)) {
            Event e = w.events.get(w.done[t]);
            if (e.kind == 1) {
                w.count[t]++;
                w.sum[t] = (31 * w.sum[t] + e.value + t) % 9973;
            }
            w.done[t]++;
            over++;
        }
        letIn(w);
        return over;
    }

    private void remember() {
        past.push(now.copy());
        if (past.size() > 6) {
            past.removeLast();
        }
    }

    private boolean noMaker(int m) {
        return m < 0 || m >= makers.size();
    }

    private boolean noTaker(int t) {
        return t < 0 || t >= takers.size();
    }

    private boolean noEvent(int number) {
        return number < 0 || number >= now.events.size();
    }

    int claims(int maker, int n) {
        if (noMaker(maker) || n < 1 || n > 9) {
            return BAD;
        }
        if (placeOf(now, maker) != NONE) {
            return STATE;
        }
        if (now.events.size() + now.row.stream().mapToInt(Wait::n).sum() + n > 999) {
            return FULL;
        }
        remember();
        return claim(now, maker, n);
    }

    int fills(int number, int v) {
        if (noEvent(number) || v < 0 || v > 99) {
            return BAD;
        }
        return close(number, 1, v);
    }

    int gaps(int number) {
        return noEvent(number) ? BAD : close(number, 2, 0);
    }

    private int close(int number, int kind, int value) {
        if (now.events.get(number).kind != 0) {
            return STATE;
        }
        remember();
        now.events.get(number).kind = kind;
        now.events.get(number).value = value;
        return cursor(now);
    }

    int takes(int taker, int n) {
        if (noTaker(taker) || n < 1 || n > 16) {
            return BAD;
        }
        if (now.done[taker] >= atMost(now, taker)) {
            return STATE;
        }
        remember();
        return take(now, taker, n);
    }

    int calls(int maker) {
        if (noMaker(maker)) {
            return BAD;
        }
        int place = placeOf(now, maker);
        if (place == NONE) {
            return STATE;
        }
        remember();
        int n = now.row.remove(place).n;
        letIn(now);
        return n;
    }

    int undo() {
        if (past.isEmpty()) {
            return STATE;
        }
        now = past.pop();
        return past.size();
    }

    int event(int number, int what) {
        if (noEvent(number) || what < 0 || what > 2) {
            return BAD;
        }
        Event e = now.events.get(number);
        int[] answers = {e.kind, e.maker, e.kind == 1 ? e.value : NONE};
        return answers[what];
    }

    int taker(int t, int what) {
        if (noTaker(t) || what < 0 || what > 6) {
            return BAD;
        }
        Taker taker = takers.get(t);
        int set = taker.behind.stream().mapToInt(b -> 1 << b).sum();
        int lag = cursor(now) - now.done[t];
        int[] answers = {taker.speed, set, now.done[t], atMost(now, t), lag, now.count[t], (int) now.sum[t]};
        return answers[what];
    }

    int maker(int m, int what) {
        if (noMaker(m) || what < 0 || what > 3) {
            return BAD;
        }
        int place = placeOf(now, m);
        int open = (int) now.events.stream().filter(e -> e.kind == 0 && e.maker == m).count();
        int[] answers = {makers.get(m), place == NONE ? 0 : now.row.get(place).n, place, open};
        return answers[what];
    }

    int blamed() {
        if (now.row.isEmpty() || takers.isEmpty()) {
            return NONE;
        }
        Set<Integer> among = bits((1 << takers.size()) - 1);
        while (true) {
            int blamed = among.stream().sorted().min((a, b) -> now.done[a] - now.done[b]).orElseThrow();
            if (now.done[blamed] < atMost(now, blamed)) {
                return blamed;
            }
            among = takers.get(blamed).behind;
            if (among.isEmpty()) {
                return now.events.stream().filter(e -> e.kind == 0).mapToInt(e -> 10 + e.maker).findFirst().orElse(NONE);
            }
        }
    }

    /** Breadth first over all takes of every n; the events that come by being let in need not be known. */
    int steps() {
        if (now.row.isEmpty()) {
            return NONE;
        }
        int first = now.row.get(0).maker;
        Map<List<Integer>, Integer> known = new HashMap<>();
        Deque<World> open = new ArrayDeque<>();
        open.add(now.copy());
        known.put(key(now), 0);
        while (!open.isEmpty()) {
            World w = open.remove();
            int steps = known.get(key(w));
            for (int t = 0; t < takers.size(); t++) {
                int ahead = atMost(w, t) - w.done[t];
                for (int n = 1; n <= Math.min(16, ahead); n++) {
                    World next = w.copy();
                    take(next, t, n);
                    if (placeOf(next, first) == NONE) {
                        return steps + 1;
                    }
                    if (known.putIfAbsent(key(next), steps + 1) == null) {
                        open.add(next);
                    }
                }
            }
        }
        return NONE;
    }

    private List<Integer> key(World w) {
        List<Integer> key = new ArrayList<>();
        for (int done : w.done) {
            key.add(done);
        }
        return key;
    }

    /** How many worlds the search for STEPS may come to: a test asks it only where these are few. */
    long stepsSpace() {
        long space = 1;
        for (int t = 0; t < takers.size(); t++) {
            space *= cursor(now) - now.done[t] + 1;
        }
        return space;
    }

    private World byRule(int ticks, int[] waited) {
        World w = now.copy();
        for (int tick = 0; tick < ticks; tick++) {
            for (int m = 0; m < makers.size(); m++) {
                for (int number = 0; number < w.events.size(); number++) {
                    Event e = w.events.get(number);
                    if (e.kind == 0 && e.maker == m) {
                        e.kind = 1;
                        e.value = number % 100;
                    }
                }
            }
            for (int m = 0; m < makers.size(); m++) {
                if (makers.get(m) > 0 && placeOf(w, m) == NONE) {
                    claim(w, m, makers.get(m));
                }
            }
            for (int t = 0; t < takers.size(); t++) {
                take(w, t, takers.get(t).speed);
            }
            for (int m = 0; m < makers.size(); m++) {
                waited[m] += placeOf(w, m) == NONE ? 0 : 1;
            }
        }
        return w;
    }

    int rule(int m, int what) {
        if (m < 0 || m > 60 || what < 0 || what > 3) {
            return BAD;
        }
        World w = byRule(m, new int[3]);
        int slow = NONE;
        for (int t = takers.size() - 1; t >= 0; t--) {
            if (slow == NONE || cursor(w) - w.done[t] >= cursor(w) - w.done[slow]) {
                slow = t;
            }
        }
        int[] answers = {w.events.size(), least(w), slow, w.row.size()};
        return answers[what];
    }

    int waited(int m, int maker) {
        if (m < 0 || m > 60 || noMaker(maker)) {
            return BAD;
        }
        int[] waited = new int[3];
        byRule(m, waited);
        return waited[maker];
    }

    int done(int m, int taker) {
        if (m < 0 || m > 60 || noTaker(taker)) {
            return BAD;
        }
        return byRule(m, new int[3]).done[taker];
    }

    int sees(int t, int d) {
        if (t < 0 || t > 60 || d < 0 || d > 9999) {
            return BAD;
        }
        if (seen.size() == 6) {
            return FULL;
        }
        seen.add(new Sight(t, d));
        return seen.size();
    }

    int forget() {
        int had = seen.size();
        seen.clear();
        return had;
    }

    int which() {
        int which = 0;
        for (int t = 0; t < takers.size(); t++) {
            int taker = t;
            if (seen.stream().allMatch(s -> done(s.t, taker) == s.d)) {
                which += 1 << t;
            }
        }
        return which;
    }

    int look() {
        Set<Integer> which = bits(which());
        if (which.size() <= 1) {
            return NONE;
        }
        int best = 0;
        int bestGreatest = 99;
        for (int t = 0; t <= 60; t++) {
            World w = byRule(t, new int[3]);
            Map<Integer, Integer> groups = new HashMap<>();
            which.forEach(k -> groups.merge(w.done[k], 1, Integer::sum));
            int greatest = groups.values().stream().mapToInt(g -> g).max().orElse(0);
            if (greatest < bestGreatest) {
                best = t;
                bestGreatest = greatest;
            }
        }
        return best;
    }

    int keep(int image) {
        if (image < 0 || image > 1) {
            return BAD;
        }
        images[image] = now.copy();
        return now.events.size();
    }

    int back(int image) {
        if (image < 0 || image > 1) {
            return BAD;
        }
        if (images[image] == null) {
            return STATE;
        }
        now = images[image].copy();
        past.clear();
        return now.events.size();
    }

    int count(int what) {
        int[] answers = {slots, makers.size(), takers.size(), now.events.size(), cursor(now), least(now), room(now),
            now.row.size(), seen.size(), text.length(), past.size()};
        return what < 0 || what >= answers.length ? BAD : answers[what];
    }
}
