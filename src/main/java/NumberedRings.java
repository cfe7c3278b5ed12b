/**
 * A ring between makers, that claim numbers and fill them, and takers, that go over them in order.
 * The document that numbers the promises is ../shared/DOC.md; words in capitals here are its words.
 */
public final class NumberedRings {

    public static final int BAD = -1, STATE = -2, FULL = -3, NONE = -9;

    private static final int FIRST_SLOTS = 8;
    private static final int LEAST_SLOTS = 2;
    private static final int MOST_SLOTS = 16;
    private static final int MOST_MAKERS = 3;
    private static final int MOST_TAKERS = 6;
    private static final int MOST_RATE = 9;
    private static final int MOST_SPEED = 9;
    private static final int MOST_LETTERS = 120;
    private static final int MOST_LETTER = 255;
    private static final int MOST_EVENTS = 999;
    private static final int MOST_CLAIM = 9;
    private static final int MOST_VALUE = 99;
    private static final int MOST_TAKE = 16;
    private static final int MOST_UNDONE = 6;
    private static final int MOST_TICKS = 60;
    private static final int MOST_SEEN = 6;
    private static final int MOST_SEEN_DONE = 9999;

    private static final int OPEN = 0;
    private static final int FILLED = 1;
    private static final int GAP = 2;

    private static final int MAKER_BLAMED = 10;
    private static final int FAULT_BASE = -10;

    private final Text text;
    private final Told told;
    private final Told draft;
    private final Standing now;
    private final Past past;
    private final Image imageZero;
    private final Image imageOne;
    private final Course course;
    private final Seen seen;

    public NumberedRings() {
        text = new Text();
        told = new Told();
        draft = new Told();
        now = new Standing(told, MOST_EVENTS);
        past = new Past(told);
        imageZero = new Image(told);
        imageOne = new Image(told);
        course = new Course(told);
        seen = new Seen();
    }

    // ---- what is told

    public int type(int letter) {
        if (letter < 0 || letter > MOST_LETTER) {
            return BAD;
        }
        return text.append(letter) ? text.length : FULL;
    }

    public int clear() {
        int had = text.length;
        text.length = 0;
        return had;
    }

    public int tells() {
        int items = text.readInto(draft);
        if (items < 0) {
            return items;
        }
        told.copyFrom(draft);
        now.reset();
        past.known = 0;
        imageZero.kept = false;
        imageOne.kept = false;
        seen.size = 0;
        text.length = 0;
        return items;
    }

    // ---- what is done

    public int claims(int maker, int n) {
        if (!told.hasMaker(maker) || n < 1 || n > MOST_CLAIM) {
            return BAD;
        }
        if (now.wants[maker] > 0) {
            return STATE;
        }
        if (now.claimed + now.wantedByAll() + n > MOST_EVENTS) {
            return FULL;
        }
        past.remember(now, NONE);
        return now.claimOrWait(maker, n);
    }

    public int fills(int number, int v) {
        if (!now.hasEvent(number) || v < 0 || v > MOST_VALUE) {
            return BAD;
        }
        return closeOpen(number, FILLED, v);
    }

    public int gaps(int number) {
        if (!now.hasEvent(number)) {
            return BAD;
        }
        return closeOpen(number, GAP, 0);
    }

    private int closeOpen(int number, int kind, int value) {
        if (now.kindOf(number) != OPEN) {
            return STATE;
        }
        past.remember(now, number);
        now.close(number, kind, value);
        return now.cursor;
    }

    public int takes(int taker, int n) {
        if (!told.hasTaker(taker) || n < 1 || n > MOST_TAKE) {
            return BAD;
        }
        if (!now.hasAhead(taker)) {
            return STATE;
        }
        past.remember(now, NONE);
        return now.goOver(taker, n);
    }

    public int calls(int maker) {
        if (!told.hasMaker(maker)) {
            return BAD;
        }
        int wanted = now.wants[maker];
        if (wanted == 0) {
            return STATE;
        }
        past.remember(now, NONE);
        now.leaveRow(maker);
        now.admit();
        return wanted;
    }

    public int undo() {
        return past.restore(now) ? past.known : STATE;
    }

    // ---- asked

    public int event(int number, int what) {
        if (!now.hasEvent(number)) {
            return BAD;
        }
        switch (what) {
            case 0: return now.kindOf(number);
            case 1: return now.makerOf(number);
            case 2: return now.kindOf(number) == FILLED ? now.valueOf(number) : NONE;
            default: return BAD;
        }
    }

    public int taker(int t, int what) {
        if (!told.hasTaker(t)) {
            return BAD;
        }
        switch (what) {
            case 0: return told.speeds[t];
            case 1: return told.behind[t];
            case 2: return now.reached[t];
            case 3: return now.atMost(t);
            case 4: return now.cursor - now.reached[t];
            case 5: return now.counts[t];
            case 6: return now.sums[t];
            default: return BAD;
        }
    }

    public int maker(int m, int what) {
        if (!told.hasMaker(m)) {
            return BAD;
        }
        switch (what) {
            case 0: return told.rates[m];
            case 1: return now.wants[m];
            case 2: return now.placeInRow(m);
            case 3: return now.openOf(m);
            default: return BAD;
        }
    }

    public int blamed() {
        return now.toBlame();
    }

    public int steps() {
        return now.takesToAdmitFirst();
    }

    public int rule(int m, int what) {
        if (!isTicks(m) || what < 0 || what > 3) {
            return BAD;
        }
        Standing then = course.after(now, m);
        switch (what) {
            case 0: return then.claimed;
            case 1: return then.least();
            case 2: return then.slowest();
            default: return then.waiting;
        }
    }

    public int waited(int m, int maker) {
        if (!isTicks(m) || !told.hasMaker(maker)) {
            return BAD;
        }
        course.after(now, m);
        return course.ticksWaited[maker];
    }

    public int done(int m, int taker) {
        if (!isTicks(m) || !told.hasTaker(taker)) {
            return BAD;
        }
        return course.after(now, m).reached[taker];
    }

    private static boolean isTicks(int m) {
        return m >= 0 && m <= MOST_TICKS;
    }

    // ---- which taker

    public int sees(int t, int d) {
        if (!isTicks(t) || d < 0 || d > MOST_SEEN_DONE) {
            return BAD;
        }
        return seen.add(t, d) ? seen.size : FULL;
    }

    public int forget() {
        int had = seen.size;
        seen.size = 0;
        return had;
    }

    public int which() {
        return course.takersSeen(now, seen);
    }

    public int look() {
        int takers = course.takersSeen(now, seen);
        return Integer.bitCount(takers) < 2 ? NONE : course.ticksThatPart(now, takers);
    }

    // ---- images

    public int keep(int image) {
        if (image != 0 && image != 1) {
            return BAD;
        }
        Image chosen = imageOf(image);
        chosen.standing.copyFrom(now);
        chosen.kept = true;
        return now.claimed;
    }

    public int back(int image) {
        if (image != 0 && image != 1) {
            return BAD;
        }
        Image chosen = imageOf(image);
        if (!chosen.kept) {
            return STATE;
        }
        now.copyFrom(chosen.standing);
        past.known = 0;
        return now.claimed;
    }

    private Image imageOf(int image) {
        return image == 0 ? imageZero : imageOne;
    }

    public int count(int what) {
        switch (what) {
            case 0: return told.slots;
            case 1: return told.makers;
            case 2: return told.takers;
            case 3: return now.claimed;
            case 4: return now.cursor;
            case 5: return now.least();
            case 6: return now.room();
            case 7: return now.waiting;
            case 8: return seen.size;
            case 9: return text.length;
            case 10: return past.known;
            default: return BAD;
        }
    }

    /** What a text tells: SLOTS, MAKERS, TAKERS. */
    private static final class Told {
        int slots = FIRST_SLOTS;
        int makers;
        int takers;
        final int[] rates = new int[MOST_MAKERS];
        final int[] speeds = new int[MOST_TAKERS];
        final int[] behind = new int[MOST_TAKERS];

        void reset() {
            slots = FIRST_SLOTS;
            makers = 0;
            takers = 0;
        }

        void copyFrom(Told other) {
            slots = other.slots;
            makers = other.makers;
            takers = other.takers;
            System.arraycopy(other.rates, 0, rates, 0, MOST_MAKERS);
            System.arraycopy(other.speeds, 0, speeds, 0, MOST_TAKERS);
            System.arraycopy(other.behind, 0, behind, 0, MOST_TAKERS);
        }

        boolean hasMaker(int m) {
            return m >= 0 && m < makers;
        }

        boolean hasTaker(int t) {
            return t >= 0 && t < takers;
        }

        boolean addMaker(int rate) {
            if (makers >= MOST_MAKERS) {
                return false;
            }
            rates[makers] = rate;
            makers++;
            return true;
        }

        boolean addTaker(int speed, int set) {
            if (takers >= MOST_TAKERS) {
                return false;
            }
            speeds[takers] = speed;
            behind[takers] = set;
            takers++;
            return true;
        }
    }

    /** THE TEXT and its reading, token by token. */
    private static final class Text {
        private static final int END = 0;
        private static final int SLOTS = 1;
        private static final int MAKER = 2;
        private static final int TAKER = 3;
        private static final int NUMBER = 4;
        private static final int SEMICOLON = 5;
        private static final int WRONG = 6;
        private static final int MOST_NUMBER = 99;

        final int[] letters = new int[MOST_LETTERS];
        int length;
        /** The token that is looked at: its kind, its place, the place behind it, its number. */
        private int kind;
        private int start;
        private int end;
        private int number;
        private int accepted;
        private boolean slotsTold;

        boolean append(int letter) {
            if (length >= MOST_LETTERS) {
                return false;
            }
            letters[length] = letter;
            length++;
            return true;
        }

        /** How many items were read, or -10 less the place of the fault. */
        int readInto(Told into) {
            into.reset();
            slotsTold = false;
            end = 0;
            next();
            int items = 0;
            while (kind != END && items < MOST_LETTERS) {
                boolean read;
                switch (kind) {
                    case SLOTS: read = readSlots(into); break;
                    case MAKER: read = readMaker(into); break;
                    case TAKER: read = readTaker(into); break;
                    default: read = false;
                }
                if (!read) {
                    return FAULT_BASE - start;
                }
                items++;
            }
            return items;
        }

        // Each of these leaves the token that can't stand there as the one looked at: start is the fault.

        private boolean readSlots(Told into) {
            if (slotsTold) {
                return false;
            }
            next();
            if (!accept(LEAST_SLOTS, MOST_SLOTS)) {
                return false;
            }
            into.slots = accepted;
            slotsTold = true;
            return acceptSemicolon();
        }

        private boolean readMaker(Told into) {
            if (into.makers >= MOST_MAKERS) {
                return false;
            }
            next();
            return accept(0, MOST_RATE) && into.addMaker(accepted) && acceptSemicolon();
        }

        private boolean readTaker(Told into) {
            if (into.takers >= MOST_TAKERS) {
                return false;
            }
            next();
            if (!accept(1, MOST_SPEED)) {
                return false;
            }
            int speed = accepted;
            int allAhead = (1 << into.takers) - 1;
            return accept(0, allAhead) && into.addTaker(speed, accepted) && acceptSemicolon();
        }

        private boolean accept(int low, int high) {
            if (kind != NUMBER || number < low || number > high) {
                return false;
            }
            accepted = number;
            next();
            return true;
        }

        private boolean acceptSemicolon() {
            if (kind != SEMICOLON) {
                return false;
            }
            next();
            return true;
        }

        private void next() {
            start = end;
            while (start < length && letters[start] == ' ') {
                start++;
            }
            if (start >= length) {
                end = start;
                kind = END;
            } else if (isWordLetter(letters[start])) {
                readWord();
            } else if (isFigure(letters[start])) {
                readNumber();
            } else {
                end = start + 1;
                kind = letters[start] == ';' ? SEMICOLON : WRONG;
            }
        }

        private void readWord() {
            end = start;
            while (end < length && isWordLetter(letters[end])) {
                end++;
            }
            if (isWord("slots")) {
                kind = SLOTS;
            } else if (isWord("maker")) {
                kind = MAKER;
            } else if (isWord("taker")) {
                kind = TAKER;
            } else {
                kind = WRONG;
            }
        }

        private void readNumber() {
            number = 0;
            end = start;
            while (end < length && isFigure(letters[end])) {
                // Held just above the limit, so that a long row of figures can't wrap around.
                number = Math.min(10 * number + letters[end] - '0', MOST_NUMBER + 1);
                end++;
            }
            boolean zeroAhead = letters[start] == '0' && end > start + 1;
            kind = zeroAhead || number > MOST_NUMBER ? WRONG : NUMBER;
        }

        private boolean isWord(String word) {
            if (end - start != word.length()) {
                return false;
            }
            for (int i = 0; i < word.length(); i++) {
                if (letters[start + i] != word.charAt(i)) {
                    return false;
                }
            }
            return true;
        }

        private static boolean isWordLetter(int letter) {
            return letter >= 'a' && letter <= 'z';
        }

        private static boolean isFigure(int letter) {
            return letter >= '0' && letter <= '9';
        }
    }

    /**
     * All that part 2 of the document tells. A standing whose row of events is empty serves where the
     * counts alone are needed: to go back by one call, which changes one event at most, and BY RULE, where
     * every event is filled anyway and the numbers go beyond the row.
     */
    private static final class Standing {
        private static final int SUM_FACTOR = 31;
        private static final int SUM_LIMIT = 9973;

        private final Told told;
        /** By number: its maker in bits 0 and 1, its kind in bits 2 and 3, its value above them. */
        private final int[] events;
        int claimed;
        int cursor;
        /** DONE, COUNT, SUM by taker. */
        final int[] reached = new int[MOST_TAKERS];
        final int[] counts = new int[MOST_TAKERS];
        final int[] sums = new int[MOST_TAKERS];
        /** THE ROW: its makers, first to last; and by maker what it waits for (0: it does not wait). */
        private final int[] row = new int[MOST_MAKERS];
        final int[] wants = new int[MOST_MAKERS];
        int waiting;

        Standing(Told told, int mostEvents) {
            this.told = told;
            this.events = new int[Math.max(0, mostEvents)];
        }

        void reset() {
            claimed = 0;
            cursor = 0;
            waiting = 0;
            for (int t = 0; t < MOST_TAKERS; t++) {
                reached[t] = 0;
                counts[t] = 0;
                sums[t] = 0;
            }
            for (int m = 0; m < MOST_MAKERS; m++) {
                wants[m] = 0;
            }
        }

        void copyFrom(Standing other) {
            claimed = other.claimed;
            cursor = other.cursor;
            waiting = other.waiting;
            System.arraycopy(other.reached, 0, reached, 0, MOST_TAKERS);
            System.arraycopy(other.counts, 0, counts, 0, MOST_TAKERS);
            System.arraycopy(other.sums, 0, sums, 0, MOST_TAKERS);
            System.arraycopy(other.row, 0, row, 0, MOST_MAKERS);
            System.arraycopy(other.wants, 0, wants, 0, MOST_MAKERS);
            int both = Math.min(events.length, other.events.length);
            System.arraycopy(other.events, 0, events, 0, Math.min(both, claimed));
        }

        boolean hasEvent(int number) {
            return number >= 0 && number < claimed && number < events.length;
        }

        int makerOf(int number) {
            return events[number] & 3;
        }

        int kindOf(int number) {
            return events[number] >> 2 & 3;
        }

        int valueOf(int number) {
            return events[number] >> 4;
        }

        int least() {
            // No taker is beyond what is claimed, so that this start is right with takers and without.
            int least = claimed;
            for (int t = 0; t < told.takers; t++) {
                if (reached[t] < least) {
                    least = reached[t];
                }
            }
            return least;
        }

        int room() {
            return told.slots + least() - claimed;
        }

        int atMost(int t) {
            int slowest = slowestOf(told.behind[t]);
            return slowest == NONE ? cursor : reached[slowest];
        }

        boolean hasAhead(int t) {
            return reached[t] < atMost(t);
        }

        /** The taker of the greatest lag, which is the one of the least DONE; NONE, if there are no takers. */
        int slowest() {
            return slowestOf((1 << told.takers) - 1);
        }

        private int slowestOf(int set) {
            int slowest = NONE;
            for (int t = 0; t < told.takers; t++) {
                if ((set >> t & 1) == 1 && (slowest == NONE || reached[t] < reached[slowest])) {
                    slowest = t;
                }
            }
            return slowest;
        }

        int wantedByAll() {
            int all = 0;
            for (int m = 0; m < told.makers; m++) {
                all += wants[m];
            }
            return all;
        }

        int placeInRow(int m) {
            for (int i = 0; i < waiting; i++) {
                if (row[i] == m) {
                    return i;
                }
            }
            return NONE;
        }

        int openOf(int m) {
            int open = 0;
            for (int number = cursor; number < claimed && number < events.length; number++) {
                if (kindOf(number) == OPEN && makerOf(number) == m) {
                    open++;
                }
            }
            return open;
        }

        /** The first number that is claimed; NONE, if the maker has to wait. */
        int claimOrWait(int m, int n) {
            if (waiting == 0 && n <= room()) {
                return claim(m, n);
            }
            if (waiting < MOST_MAKERS) {
                row[waiting] = m;
                wants[m] = n;
                waiting++;
            }
            return NONE;
        }

        private int claim(int m, int n) {
            int first = claimed;
            claimed += n;
            for (int number = first; number < claimed && number < events.length; number++) {
                events[number] = m;
            }
            return first;
        }

        /** To be called whenever there may be more room, or another first one of the row. */
        void admit() {
            for (int i = 0; i < MOST_MAKERS && waiting > 0; i++) {
                int m = row[0];
                int n = wants[m];
                if (n > room()) {
                    return;
                }
                leaveRow(m);
                claim(m, n);
            }
        }

        void leaveRow(int m) {
            int place = placeInRow(m);
            if (place == NONE) {
                return;
            }
            for (int i = place + 1; i < waiting; i++) {
                row[i - 1] = row[i];
            }
            wants[m] = 0;
            waiting--;
        }

        void close(int number, int kind, int value) {
            events[number] = makerOf(number) | kind << 2 | value << 4;
            while (cursor < claimed && cursor < events.length && kindOf(cursor) != OPEN) {
                cursor++;
            }
        }

        /** The cursor is not moved: who opens again has the one of before. */
        void reopen(int number) {
            if (hasEvent(number)) {
                events[number] = makerOf(number);
            }
        }

        void closeAllByRule() {
            cursor = claimed;
        }

        /** How many numbers the taker goes over. */
        int goOver(int t, int n) {
            int first = reached[t];
            int behindLast = Math.min(first + n, atMost(t));
            if (behindLast <= first) {
                return 0;
            }
            for (int number = first; number < behindLast && number < events.length; number++) {
                if (kindOf(number) == FILLED) {
                    counts[t]++;
                    sums[t] = (SUM_FACTOR * sums[t] + valueOf(number) + t) % SUM_LIMIT;
                }
            }
            reached[t] = behindLast;
            admit();
            return behindLast - first;
        }

        int toBlame() {
            if (waiting == 0 || told.takers == 0) {
                return NONE;
            }
            int blamed = slowest();
            for (int i = 0; i < MOST_TAKERS && !hasAhead(blamed); i++) {
                int before = slowestOf(told.behind[blamed]);
                if (before == NONE) {
                    return hasEvent(cursor) ? MAKER_BLAMED + makerOf(cursor) : NONE;
                }
                blamed = before;
            }
            return blamed;
        }

        /**
         * All takers have to come as far as the room asks for, and none can beyond the cursor. Those that
         * lack it lack no more than is wanted (9 at most), so that one take each is enough if they go in
         * the order in which they were told.
         */
        int takesToAdmitFirst() {
            if (waiting == 0 || told.takers == 0) {
                return NONE;
            }
            int needed = claimed + wants[row[0]] - told.slots;
            if (needed > cursor) {
                return NONE;
            }
            int takes = 0;
            for (int t = 0; t < told.takers; t++) {
                if (reached[t] < needed) {
                    takes++;
                }
            }
            return takes;
        }
    }

    /** What can be undone: the standings ahead of the latest calls, in a round of places. */
    private static final class Past {
        private final Standing[] standings = new Standing[MOST_UNDONE];
        /** The number that the call filled or left as a gap; NONE for other calls. */
        private final int[] closed = new int[MOST_UNDONE];
        private int latest;
        int known;

        Past(Told told) {
            for (int i = 0; i < MOST_UNDONE; i++) {
                standings[i] = new Standing(told, 0);
            }
        }

        void remember(Standing now, int number) {
            latest = (latest + 1) % MOST_UNDONE;
            standings[latest].copyFrom(now);
            closed[latest] = number;
            known = Math.min(known + 1, MOST_UNDONE);
        }

        boolean restore(Standing now) {
            if (known == 0) {
                return false;
            }
            now.copyFrom(standings[latest]);
            now.reopen(closed[latest]);
            latest = (latest + MOST_UNDONE - 1) % MOST_UNDONE;
            known--;
            return true;
        }
    }

    private static final class Image {
        final Standing standing;
        boolean kept;

        Image(Told told) {
            standing = new Standing(told, MOST_EVENTS);
        }
    }

    /** What was SEEN of the unknown taker. */
    private static final class Seen {
        private final int[] ticks = new int[MOST_SEEN];
        private final int[] reached = new int[MOST_SEEN];
        int size;

        boolean add(int t, int d) {
            if (size >= MOST_SEEN) {
                return false;
            }
            ticks[size] = t;
            reached[size] = d;
            size++;
            return true;
        }

        int lastTick() {
            int last = 0;
            for (int i = 0; i < size; i++) {
                last = Math.max(last, ticks[i]);
            }
            return last;
        }

        boolean allows(int tick, int done) {
            for (int i = 0; i < size; i++) {
                if (ticks[i] == tick && reached[i] != done) {
                    return false;
                }
            }
            return true;
        }
    }

    /** How all goes on BY RULE. */
    private static final class Course {
        private final Told told;
        private final Standing then;
        final int[] ticksWaited = new int[MOST_MAKERS];

        Course(Told told) {
            this.told = told;
            then = new Standing(told, 0);
        }

        Standing after(Standing now, int ticks) {
            start(now);
            for (int i = 0; i < ticks; i++) {
                tick();
            }
            return then;
        }

        private void start(Standing now) {
            then.copyFrom(now);
            for (int m = 0; m < MOST_MAKERS; m++) {
                ticksWaited[m] = 0;
            }
        }

        private void tick() {
            then.closeAllByRule();
            for (int m = 0; m < told.makers; m++) {
                if (told.rates[m] > 0 && then.wants[m] == 0) {
                    then.claimOrWait(m, told.rates[m]);
                }
            }
            for (int t = 0; t < told.takers; t++) {
                then.goOver(t, told.speeds[t]);
            }
            for (int m = 0; m < told.makers; m++) {
                if (then.wants[m] > 0) {
                    ticksWaited[m]++;
                }
            }
        }

        /** WHICH, as bits. */
        int takersSeen(Standing now, Seen seen) {
            int takers = (1 << told.takers) - 1;
            int last = seen.lastTick();
            start(now);
            for (int i = 0; i <= last; i++) {
                if (i > 0) {
                    tick();
                }
                for (int t = 0; t < told.takers; t++) {
                    if (!seen.allows(i, then.reached[t])) {
                        takers &= ~(1 << t);
                    }
                }
            }
            return takers;
        }

        /** LOOK, of these takers. */
        int ticksThatPart(Standing now, int takers) {
            int best = 0;
            int bestGroup = MOST_TAKERS + 1;
            start(now);
            // A group of one can't be bettered.
            for (int i = 0; i <= MOST_TICKS && bestGroup > 1; i++) {
                if (i > 0) {
                    tick();
                }
                int group = greatestGroup(takers);
                if (group < bestGroup) {
                    best = i;
                    bestGroup = group;
                }
            }
            return best;
        }

        /** How many of these takers have one DONE, at most. */
        private int greatestGroup(int takers) {
            int greatest = 0;
            for (int t = 0; t < told.takers; t++) {
                int group = 0;
                for (int other = 0; other < told.takers; other++) {
                    if ((takers >> t & takers >> other & 1) == 1 && then.reached[t] == then.reached[other]) {
                        group++;
                    }
                }
                greatest = Math.max(greatest, group);
            }
            return greatest;
        }
    }
}
