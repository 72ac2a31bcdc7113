import java.util.Arrays;

/** Sorting that learns runs, step by step; ../shared/DOC.md says what each call answers. */
public final class RunSorter {
    public static final int BAD = -1, NO = -2, FULL = -3, NONE = -4;

    private static final int TEXT_LIMIT = 200, ROW_LIMIT = 96, KEYS = 26, STEP_LIMIT = 400;
    private static final int FIRST_SIGN = 32, LAST_SIGN = 126;

    private static final int ORDER = 0, POLICY = 1, LEAST = 2, LEAP = 3, RULES = 4;
    private static final int[] LOWEST = {0, 0, 2, 1};
    private static final int[] HIGHEST = {3, 2, 9, 9};

    private static final int TESTS = 0, MOVES = 1, FOUND = 2, DOWN = 3, LONGER = 4, MERGES = 5,
            MERGED_RECORDS = 6, MOST_IN_ROOM = 7, MOST_ON_STACK = 8, ROUNDS = 9, LEAP_NOW = 10,
            STEPS = 11, COSTS = 12;

    private static final int IS_DONE = 0, IS_PUSH = 1, IS_FIND = 2, IS_MERGE = 3;

    private static final int BY_POWERS = 0, BY_LIKE_LENGTHS = 1;

    // Bit k is set where letter k (a: 0) is a vowel.
    private static final int VOWELS = 1 | 1 << 4 | 1 << 8 | 1 << 14 | 1 << 20;

    private static final String FIRST_TEXT = "hgfedcbaabcdefzzyyxxaaaaabbbbbcccqponmlkj";

    // A search that halves a row of 200 at most needs fewer tries than this by far.
    private static final int MOST_TRIES = 1000;

    private final Cells text = new Cells(TEXT_LIMIT);
    private int letters = 0;
    private final Cells laid = new Cells(ROW_LIMIT);
    private int records = 0;
    private final Cells rules = new Cells(RULES);
    private final Sorter sorter = new Sorter();
    private final Sorter otherSorter = new Sorter();
    private final Judge asideJudge = new Judge(new Cells(COSTS));
    private final Span asideSpan = new Span(laid);

    public RunSorter() {
        rules.fill(LEAST, 4);
        rules.fill(LEAP, 3);
        for (int i = 0; i < FIRST_TEXT.length(); i++) {
            laid.fill(i, recordOf(FIRST_TEXT.charAt(i) - 'a', i));
        }
        records = FIRST_TEXT.length();
        beginAnew();
    }

    // ---- told

    public int write(int letter) {
        if (isOutside(letter, FIRST_SIGN, LAST_SIGN)) {
            return BAD;
        }
        if (letters >= TEXT_LIMIT) {
            return FULL;
        }
        text.fill(letters, letter);
        letters++;
        return letters;
    }

    public int wipe() {
        int before = letters;
        letters = 0;
        return before;
    }

    public int fault() {
        for (int i = 0; i < letters; i++) {
            if (i >= ROW_LIMIT || isOutside(text.look(i), 'a', 'z')) {
                return i;
            }
        }
        return NONE;
    }

    public int lay() {
        if (letters == 0 || fault() != NONE) {
            return NO;
        }
        for (int i = 0; i < letters; i++) {
            laid.fill(i, recordOf(text.look(i) - 'a', i));
        }
        records = letters;
        beginAnew();
        return records;
    }

    public int rule(int what, int number) {
        if (isOutside(what, 0, RULES - 1) || isOutside(number, LOWEST[what], HIGHEST[what])) {
            return BAD;
        }
        int before = rules.look(what);
        if (before == number) {
            return NO;
        }
        rules.fill(what, number);
        beginAnew();
        return before;
    }

    public int put(int i, int key) {
        if (isNoPlace(i) || isNoKey(key)) {
            return BAD;
        }
        int before = keyOf(laid.look(i));
        if (before == key) {
            return NO;
        }
        laid.fill(i, recordOf(key, i));
        beginAnew();
        return before;
    }

    public int start() {
        int before = sorter.tally.look(STEPS);
        beginAnew();
        return before;
    }

    // ---- steps

    public int step(int n) {
        if (isOutside(n, 1, STEP_LIMIT)) {
            return BAD;
        }
        return sorter.advance(n);
    }

    public int next() {
        return sorter.kindOfNext();
    }

    public int at(int i, int what) {
        if (isNoPlace(i) || isOutside(what, 0, 1)) {
            return BAD;
        }
        int found = sorter.row.look(i);
        return what == 0 ? keyOf(found) : tagOf(found);
    }

    public int place(int tag) {
        for (int i = 0; i < records; i++) {
            if (tagOf(sorter.row.look(i)) == tag) {
                return i;
            }
        }
        return BAD;
    }

    public int run(int i, int what) {
        if (i < -1 || isOutside(what, 0, 2)) {
            return BAD;
        }
        if (i == -1) {
            return sorter.depth;
        }
        if (i >= sorter.depth) {
            return NONE;
        }
        if (what == 2) {
            return sorter.powerBehind(i);
        }
        return what == 0 ? sorter.places.look(i) : sorter.lengths.look(i);
    }

    public int waiting() {
        return sorter.waitingLength > 0 ? sorter.waitingLength : NONE;
    }

    public int due() {
        return sorter.firstToMerge();
    }

    public int cost(int what) {
        return isOutside(what, 0, COSTS - 1) ? BAD : sorter.tally.look(what);
    }

    public int would(int policy, int what) {
        if (isOutside(policy, LOWEST[POLICY], HIGHEST[POLICY]) || isOutside(what, 0, COSTS - 1)) {
            return BAD;
        }
        otherSorter.begin(laid, records, rules, policy);
        otherSorter.advance(STEP_LIMIT);
        return otherSorter.tally.look(what);
    }

    // ---- looked at

    public int descents() {
        return descentsBetween(0, records);
    }

    public int inversions() {
        int pairs = 0;
        for (int later = 1; later < records; later++) {
            for (int earlier = 0; earlier < later; earlier++) {
                if (standsLess(later, earlier)) {
                    pairs++;
                }
            }
        }
        return pairs;
    }

    public int seek(int i, int j, int key, int what) {
        if (i < 0 || i > j || j > records || isNoKey(key) || isOutside(what, 0, 1)) {
            return BAD;
        }
        if (descentsBetween(i, j) > 0) {
            return NO;
        }
        asideJudge.order = rules.look(ORDER);
        asideJudge.tally.fill(TESTS, 0);
        asideSpan.aim(sorter.row, i, 1, j - i);
        int passing = asideJudge.passing(asideSpan, recordOf(key, 0), false, true);
        return what == 0 ? passing : asideJudge.tally.look(TESTS);
    }

    public int less(int a, int b) {
        if (isNoKey(a) || isNoKey(b)) {
            return BAD;
        }
        int order = rules.look(ORDER);
        return rankOf(order, a) < rankOf(order, b) ? 1 : 0;
    }

    public int count(int what) {
        switch (what) {
            case 0: return records;
            case 1: return rules.look(ORDER);
            case 2: return rules.look(POLICY);
            case 3: return rules.look(LEAST);
            case 4: return rules.look(LEAP);
            case 5: return letters;
            case 6: return sorter.inRuns;
            case 7: return sorter.kindOfNext() == IS_DONE ? 1 : 0;
            default: return BAD;
        }
    }

    private void beginAnew() {
        sorter.begin(laid, records, rules, rules.look(POLICY));
    }

    private int descentsBetween(int from, int to) {
        int many = 0;
        for (int i = from + 1; i < to; i++) {
            if (standsLess(i, i - 1)) {
                many++;
            }
        }
        return many;
    }

    // Beside the judge of the sorter, since what is only looked at costs no TEST.
    private boolean standsLess(int one, int other) {
        int order = rules.look(ORDER);
        return rankOf(order, keyOf(sorter.row.look(one)))
                < rankOf(order, keyOf(sorter.row.look(other)));
    }

    private boolean isNoPlace(int i) {
        return isOutside(i, 0, records - 1);
    }

    private static boolean isNoKey(int key) {
        return isOutside(key, 0, KEYS - 1);
    }

    private static boolean isOutside(int number, int lowest, int highest) {
        return number < lowest || number > highest;
    }

    // KEY and TAG go in one number, so that a MOVE is one assignment.
    private static int recordOf(int key, int tag) {
        return tag * KEYS + key;
    }

    private static int keyOf(int packed) {
        return packed % KEYS;
    }

    private static int tagOf(int packed) {
        return packed / KEYS;
    }

    // Each of the four orders ranks the letters, so LESS is always a lower rank.
    private static int rankOf(int order, int key) {
        switch (order) {
            case 1: return -key;
            case 2: return key % 5;
            case 3: return (VOWELS >> key & 1) == 1 ? 0 : 1;
            default: return key;
        }
    }

    /** A row of numbers whose every index is looked at before it is used. */
    private static final class Cells {
        private final int[] values;

        private Cells(int size) {
            values = new int[Math.max(0, size)];
        }

        private int look(int i) {
            return i >= 0 && i < values.length ? values[i] : 0;
        }

        private void fill(int i, int value) {
            if (i >= 0 && i < values.length) {
                values[i] = value;
            }
        }

        private void add(int i, int more) {
            if (i >= 0 && i < values.length) {
                values[i] += more;
            }
        }

        private void raise(int i, int value) {
            if (i >= 0 && i < values.length && values[i] < value) {
                values[i] = value;
            }
        }

        private void clearAll() {
            Arrays.fill(values, 0);
        }
    }

    /** RECORDS in a row, begun at one end: FORWARD (direction 1) or from behind (-1). */
    private static final class Span {
        private Cells cells;
        private int end = 0;
        private int direction = 1;
        private int left = 0;

        private Span(Cells cells) {
            this.cells = cells;
        }

        private void aim(Cells in, int from, int way, int many) {
            cells = in;
            end = from;
            direction = way;
            left = many;
        }

        private int ahead(int many) {
            return cells.look(end + direction * many);
        }

        private void drop(int many) {
            end += direction * many;
            left -= many;
        }
    }

    /** Says which RECORD is LESS, and counts each time that it is asked. */
    private static final class Judge {
        private final Cells tally;
        private int order = 0;

        private Judge(Cells tally) {
            this.tally = tally;
        }

        private boolean isLess(int one, int other) {
            tally.add(TESTS, 1);
            return rankOf(order, keyOf(one)) < rankOf(order, keyOf(other));
        }

        // A SEEK. While it leaps, the next to be tried has twice low ahead: 0, 2, 6, 14, ..
        private int passing(Span span, int mark, boolean markIsOne, boolean wanted) {
            int low = 0;
            int high = span.left;
            boolean leaps = true;
            for (int tries = 0; tries < MOST_TRIES && low < high; tries++) {
                leaps = leaps && 2 * low < high;
                int tried = leaps ? 2 * low : (low + high) / 2;
                int it = span.ahead(tried);
                boolean answer = markIsOne ? isLess(mark, it) : isLess(it, mark);
                if (answer == wanted) {
                    low = tried + 1;
                } else {
                    high = tried;
                    leaps = false;
                }
            }
            return low;
        }
    }

    /** MERGES two RUNS of a row. */
    private static final class Merger {
        private final Cells row;
        private final Cells room = new Cells(ROW_LIMIT / 2);
        private final Cells tally;
        private final Judge judge;
        private final Span a;
        private final Span b;
        private int target = 0;
        private int direction = 1;

        private Merger(Cells row, Cells tally, Judge judge) {
            this.row = row;
            this.tally = tally;
            this.judge = judge;
            a = new Span(row);
            b = new Span(row);
        }

        private void join(int place, int ofA, int ofB) {
            leaveWhatStays(place, ofA, ofB);
            if (!bothAreLeft()) {
                return;
            }
            boolean forward = a.left <= b.left;
            if (forward) {
                openForward();
            } else {
                openBack();
            }
            boolean leaps = false;
            for (int n = 0; n < ROW_LIMIT && bothAreLeft(); n++) {
                leaps = leaps ? leapOneRound() : takeSingly();
            }
            Span inRoom = forward ? a : b;
            take(inRoom, inRoom.left);
        }

        private void leaveWhatStays(int place, int ofA, int ofB) {
            a.aim(row, place, 1, ofA);
            b.aim(row, place + ofA, 1, ofB);
            a.drop(judge.passing(a, b.ahead(0), true, false));
            if (a.left > 0) {
                b.left = judge.passing(b, a.ahead(a.left - 1), false, true);
            }
        }

        private boolean bothAreLeft() {
            return a.left > 0 && b.left > 0;
        }

        private void openForward() {
            direction = 1;
            target = a.end;
            bringIntoRoom(a);
            a.aim(room, 0, 1, a.left);
        }

        private void openBack() {
            direction = -1;
            target = b.end + b.left - 1;
            bringIntoRoom(b);
            a.aim(row, a.end + a.left - 1, -1, a.left);
            b.aim(room, b.left - 1, -1, b.left);
        }

        private void bringIntoRoom(Span side) {
            for (int i = 0; i < side.left; i++) {
                room.fill(i, side.ahead(i));
            }
            tally.add(MOVES, side.left);
            tally.raise(MOST_IN_ROOM, side.left);
        }

        private void take(Span side, int many) {
            for (int i = 0; i < many; i++) {
                row.fill(target, side.ahead(0));
                side.drop(1);
                target += direction;
            }
            tally.add(MOVES, many);
        }

        // Answers whether the MERGE goes on LEAPING.
        private boolean takeSingly() {
            int leapNow = tally.look(LEAP_NOW);
            int inARow = 0;
            boolean lastWasA = false;
            for (int n = 0; n < ROW_LIMIT && bothAreLeft() && inARow < leapNow; n++) {
                boolean bIsLess = judge.isLess(b.ahead(0), a.ahead(0));
                boolean takesA = bIsLess == (direction < 0);
                inARow = takesA == lastWasA ? inARow + 1 : 1;
                lastWasA = takesA;
                take(takesA ? a : b, 1);
            }
            return inARow >= leapNow;
        }

        // Answers whether the MERGE goes on LEAPING.
        private boolean leapOneRound() {
            boolean forward = direction > 0;
            tally.add(ROUNDS, 1);
            int ofA = judge.passing(a, b.ahead(0), true, !forward);
            take(a, ofA);
            if (!bothAreLeft()) {
                return false;
            }
            take(b, 1);
            if (!bothAreLeft()) {
                return false;
            }
            int ofB = judge.passing(b, a.ahead(0), false, forward);
            take(b, ofB);
            if (!bothAreLeft()) {
                return false;
            }
            take(a, 1);
            return bothAreLeft() && leapsOn(Math.max(ofA, ofB));
        }

        private boolean leapsOn(int longest) {
            int leapNow = tally.look(LEAP_NOW);
            boolean pays = longest >= leapNow;
            int changed = pays ? leapNow - 1 : leapNow + 1;
            tally.fill(LEAP_NOW, Math.max(LOWEST[LEAP], Math.min(HIGHEST[LEAP], changed)));
            return pays;
        }
    }

    /** A ROW on its way to be SORTED, with the RUNS and what it cost so far. */
    private static final class Sorter {
        private final Cells row = new Cells(ROW_LIMIT);
        private final Cells tally = new Cells(COSTS);
        private final Cells places = new Cells(ROW_LIMIT);
        private final Cells lengths = new Cells(ROW_LIMIT);
        private final Judge judge = new Judge(tally);
        private final Merger merger = new Merger(row, tally, judge);
        private int records = 0;
        private int policy = BY_POWERS;
        private int least = 0;
        private int depth = 0;
        private int inRuns = 0;
        private int waitingLength = 0;

        private void begin(Cells laid, int many, Cells rules, int byPolicy) {
            for (int i = 0; i < many; i++) {
                row.fill(i, laid.look(i));
            }
            records = many;
            policy = byPolicy;
            least = rules.look(LEAST);
            judge.order = rules.look(ORDER);
            depth = 0;
            inRuns = 0;
            waitingLength = 0;
            tally.clearAll();
            tally.fill(LEAP_NOW, rules.look(LEAP));
        }

        private int advance(int most) {
            int steps = 0;
            int kind = kindOfNext();
            while (steps < most && kind != IS_DONE) {
                if (kind == IS_PUSH) {
                    pushWaiting();
                } else if (kind == IS_FIND) {
                    findRun();
                } else {
                    int first = firstToMerge();
                    merger.join(places.look(first), lengths.look(first), lengths.look(first + 1));
                    closeUpBehind(first);
                }
                steps++;
                kind = kindOfNext();
            }
            tally.add(STEPS, steps);
            return steps;
        }

        private int kindOfNext() {
            if (firstToMerge() != NONE) {
                return IS_MERGE;
            }
            if (waitingLength > 0) {
                return IS_PUSH;
            }
            return inRuns < records ? IS_FIND : IS_DONE;
        }

        private int firstToMerge() {
            if (waitingLength > 0) {
                return firstByPowers();
            }
            int first = firstByLengths();
            if (first != NONE || inRuns < records) {
                return first;
            }
            return firstAtTheEnd();
        }

        private int firstByPowers() {
            boolean merges = policy == BY_POWERS && depth >= 2
                    && powerBehind(depth - 2) > powerBehind(depth - 1);
            return merges ? depth - 2 : NONE;
        }

        private int firstByLengths() {
            if (policy == BY_POWERS || depth < 2) {
                return NONE;
            }
            if (policy == BY_LIKE_LENGTHS) {
                return fromTop(1) <= 2 * fromTop(0) ? depth - 2 : NONE;
            }
            if (isOffBalance()) {
                return lowerPairIfThirdIsShort();
            }
            return fromTop(1) <= fromTop(0) ? depth - 2 : NONE;
        }

        private boolean isOffBalance() {
            return depth >= 3 && fromTop(2) <= fromTop(1) + fromTop(0)
                    || depth >= 4 && fromTop(3) <= fromTop(2) + fromTop(1);
        }

        private int firstAtTheEnd() {
            if (depth < 2) {
                return NONE;
            }
            boolean byTopTwo = policy == BY_POWERS || policy == BY_LIKE_LENGTHS;
            return byTopTwo ? depth - 2 : lowerPairIfThirdIsShort();
        }

        private int lowerPairIfThirdIsShort() {
            return depth >= 3 && fromTop(2) < fromTop(0) ? depth - 3 : depth - 2;
        }

        private int fromTop(int below) {
            return lengths.look(depth - 1 - below);
        }

        private int powerBehind(int i) {
            boolean isTop = i == depth - 1;
            int nextLength = isTop ? waitingLength : lengths.look(i + 1);
            if (nextLength <= 0 || records <= 0) {
                return NONE;
            }
            int middle = 2 * places.look(i) + lengths.look(i);
            int nextMiddle = middle + lengths.look(i) + nextLength;
            int whole = 2 * records;
            int power = 1;
            // The middles lie 2 of 192 apart at least, so power 8 tells any two.
            while (power < 20 && (middle << power) / whole == (nextMiddle << power) / whole) {
                power++;
            }
            return power;
        }

        private void pushWaiting() {
            places.fill(depth, inRuns - waitingLength);
            lengths.fill(depth, waitingLength);
            depth++;
            waitingLength = 0;
            tally.raise(MOST_ON_STACK, depth);
        }

        private void closeUpBehind(int first) {
            int together = lengths.look(first) + lengths.look(first + 1);
            lengths.fill(first, together);
            depth--;
            for (int i = first + 1; i < depth; i++) {
                places.fill(i, places.look(i + 1));
                lengths.fill(i, lengths.look(i + 1));
            }
            tally.add(MERGES, 1);
            tally.add(MERGED_RECORDS, together);
        }

        private void findRun() {
            int from = inRuns;
            boolean down = records - from > 1 && judge.isLess(row.look(from + 1), row.look(from));
            int length = lengthAsItLies(from, down);
            if (down) {
                turnRound(from, length);
                tally.add(DOWN, 1);
            }
            int wanted = Math.min(least, records - from);
            if (length < wanted) {
                tally.add(LONGER, 1);
            }
            for (; length < wanted; length++) {
                insertNext(from, length);
            }
            waitingLength = length;
            inRuns = from + length;
            tally.add(FOUND, 1);
        }

        private int lengthAsItLies(int from, boolean down) {
            int behind = Math.min(from + 2, records);
            while (behind < records
                    && judge.isLess(row.look(behind), row.look(behind - 1)) == down) {
                behind++;
            }
            return behind - from;
        }

        private void turnRound(int from, int length) {
            int swaps = length / 2;
            for (int i = 0; i < swaps; i++) {
                int early = row.look(from + i);
                row.fill(from + i, row.look(from + length - 1 - i));
                row.fill(from + length - 1 - i, early);
            }
            tally.add(MOVES, 2 * swaps);
        }

        private void insertNext(int from, int length) {
            int it = row.look(from + length);
            int low = 0;
            int high = length;
            for (int tries = 0; tries < MOST_TRIES && low < high; tries++) {
                int middle = (low + high) / 2;
                if (judge.isLess(it, row.look(from + middle))) {
                    high = middle;
                } else {
                    low = middle + 1;
                }
            }
            if (low == length) {
                return;
            }
            for (int i = length; i > low; i--) {
                row.fill(from + i, row.look(from + i - 1));
            }
            row.fill(from + low, it);
            tally.add(MOVES, length - low + 1);
        }
    }
}
