import java.util.ArrayList;
import java.util.Collections;
import java.util.List;
import java.util.function.Predicate;

/**
 * The document told a second time, with lists and predicates and without thrift, so that
 * ModelTest can hold RunSorter against it. It shares no code with RunSorter.
 */
final class Model {
    static final class Rec {
        final int key;
        final int tag;

        Rec(int key, int tag) {
            this.key = key;
            this.tag = tag;
        }
    }

    /** One sorting from START on. */
    static final class Sorting {
        final int order;
        final int policy;
        final int least;
        final List<Rec> row = new ArrayList<>();
        final List<int[]> stack = new ArrayList<>();
        int[] waiting = null;
        int covered = 0;
        final int[] cost = new int[12];

        Sorting(List<Integer> keys, int[] rules, int policy) {
            this.order = rules[0];
            this.policy = policy;
            this.least = rules[2];
            cost[10] = rules[3];
            for (int i = 0; i < keys.size(); i++) {
                row.add(new Rec(keys.get(i), i));
            }
        }

        boolean test(Rec a, Rec b) {
            cost[0]++;
            return lessKeys(order, a.key, b.key);
        }

        int powerOf(int[] one, int[] two) {
            long twiceN = 2L * row.size();
            long left = 2L * one[0] + one[1];
            long right = 2L * one[0] + 2L * one[1] + two[1];
            for (int k = 1; ; k++) {
                long factor = 1L << k;
                if (left * factor / twiceN != right * factor / twiceN) {
                    return k;
                }
            }
        }

        /** {kind, first of the two on the stack or -1}. */
        int[] plan() {
            int d = stack.size();
            if (waiting != null) {
                if (policy == 0 && d >= 2) {
                    int[] top = stack.get(d - 1);
                    if (powerOf(stack.get(d - 2), top) > powerOf(top, waiting)) {
                        return new int[] {3, d - 2};
                    }
                }
                return new int[] {1, -1};
            }
            int byLengths = dueByLengths();
            if (byLengths >= 0) {
                return new int[] {3, byLengths};
            }
            if (covered < row.size()) {
                return new int[] {2, -1};
            }
            if (d < 2) {
                return new int[] {0, -1};
            }
            if (policy == 2 && d >= 3 && stack.get(d - 3)[1] < stack.get(d - 1)[1]) {
                return new int[] {3, d - 3};
            }
            return new int[] {3, d - 2};
        }

        int dueByLengths() {
            int d = stack.size();
            if (d < 2 || policy == 0) {
                return -1;
            }
            int w = stack.get(d - 1)[1];
            int z = stack.get(d - 2)[1];
            if (policy == 1) {
                return z <= 2 * w ? d - 2 : -1;
            }
            if (d >= 3) {
                int y = stack.get(d - 3)[1];
                boolean hit = y <= z + w;
                if (!hit && d >= 4) {
                    int x = stack.get(d - 4)[1];
                    hit = x <= y + z;
                }
                if (hit) {
                    return y < w ? d - 3 : d - 2;
                }
            }
            return z <= w ? d - 2 : -1;
        }

        boolean stepOnce() {
            int[] plan = plan();
            switch (plan[0]) {
                case 0:
                    return false;
                case 1:
                    stack.add(waiting);
                    waiting = null;
                    cost[8] = Math.max(cost[8], stack.size());
                    break;
                case 2:
                    findRun();
                    break;
                default:
                    int[] one = stack.get(plan[1]);
                    int[] two = stack.remove(plan[1] + 1);
                    cost[5]++;
                    cost[6] += one[1] + two[1];
                    merge(one[0], one[1], two[1]);
                    one[1] += two[1];
            }
            cost[11]++;
            return true;
        }

        void findRun() {
            List<Rec> rest = row.subList(covered, row.size());
            int length = 1;
            boolean down = false;
            if (rest.size() > 1) {
                down = test(rest.get(1), rest.get(0));
                length = 2;
                while (length < rest.size() && test(rest.get(length), rest.get(length - 1)) == down) {
                    length++;
                }
            }
            cost[2]++;
            if (down) {
                cost[3]++;
                Collections.reverse(rest.subList(0, length));
                cost[1] += 2 * (length / 2);
            }
            if (length < least && length < rest.size()) {
                cost[4]++;
                while (length < least && length < rest.size()) {
                    Rec it = rest.get(length);
                    int low = 0;
                    int high = length;
                    while (low < high) {
                        int mid = (low + high) / 2;
                        if (test(it, rest.get(mid))) {
                            high = mid;
                        } else {
                            low = mid + 1;
                        }
                    }
                    Collections.rotate(rest.subList(low, length + 1), 1);
                    int behind = length - low;
                    if (behind > 0) {
                        cost[1] += behind + 1;
                    }
                    length++;
                }
            }
            waiting = new int[] {covered, length};
            covered += length;
        }

        void merge(int place, int p, int q) {
            List<Rec> a = new ArrayList<>(row.subList(place, place + p));
            List<Rec> b = new ArrayList<>(row.subList(place + p, place + p + q));
            Rec firstB = b.get(0);
            int stay = sought(a, it -> !test(firstB, it));
            a = new ArrayList<>(a.subList(stay, a.size()));
            if (a.isEmpty()) {
                return;
            }
            Rec lastA = a.get(a.size() - 1);
            int keep = sought(b, it -> test(it, lastA));
            b = new ArrayList<>(b.subList(0, keep));
            int from = place + stay;
            boolean forward = a.size() <= b.size();
            int roomed = Math.min(a.size(), b.size());
            cost[1] += roomed;
            cost[7] = Math.max(cost[7], roomed);
            List<Rec> out = forward ? mergeForward(a, b) : mergeBack(a, b);
            for (int i = 0; i < out.size(); i++) {
                row.set(from + i, out.get(i));
            }
        }

        /** Out of the front of a list into another; a MOVE. */
        void pull(List<Rec> side, List<Rec> out) {
            out.add(side.remove(0));
            cost[1]++;
        }

        List<Rec> mergeForward(List<Rec> a, List<Rec> b) {
            List<Rec> out = new ArrayList<>();
            boolean leaping = false;
            int runA = 0;
            int runB = 0;
            while (true) {
                if (!leaping) {
                    if (test(b.get(0), a.get(0))) {
                        pull(b, out);
                        runB++;
                        runA = 0;
                    } else {
                        pull(a, out);
                        runA++;
                        runB = 0;
                    }
                    if (a.isEmpty() || b.isEmpty()) {
                        break;
                    }
                    leaping = runA == cost[10] || runB == cost[10];
                    continue;
                }
                cost[9]++;
                Rec headB = b.get(0);
                int first = sought(a, it -> !test(headB, it));
                for (int i = 0; i < first; i++) {
                    pull(a, out);
                }
                if (a.isEmpty()) {
                    break;
                }
                pull(b, out);
                if (b.isEmpty()) {
                    break;
                }
                Rec headA = a.get(0);
                int second = sought(b, it -> test(it, headA));
                for (int i = 0; i < second; i++) {
                    pull(b, out);
                }
                if (b.isEmpty()) {
                    break;
                }
                pull(a, out);
                if (a.isEmpty()) {
                    break;
                }
                if (first < cost[10] && second < cost[10]) {
                    cost[10] = Math.min(9, cost[10] + 1);
                    leaping = false;
                    runA = 0;
                    runB = 0;
                } else {
                    cost[10] = Math.max(1, cost[10] - 1);
                }
            }
            cost[1] += a.size();
            out.addAll(a);
            out.addAll(b);
            return out;
        }

        List<Rec> mergeBack(List<Rec> a, List<Rec> b) {
            Collections.reverse(a);
            Collections.reverse(b);
            List<Rec> out = new ArrayList<>();
            boolean leaping = false;
            int runA = 0;
            int runB = 0;
            while (true) {
                if (!leaping) {
                    if (test(b.get(0), a.get(0))) {
                        pull(a, out);
                        runA++;
                        runB = 0;
                    } else {
                        pull(b, out);
                        runB++;
                        runA = 0;
                    }
                    if (a.isEmpty() || b.isEmpty()) {
                        break;
                    }
                    leaping = runA == cost[10] || runB == cost[10];
                    continue;
                }
                cost[9]++;
                Rec tailB = b.get(0);
                int first = sought(a, it -> test(tailB, it));
                for (int i = 0; i < first; i++) {
                    pull(a, out);
                }
                if (a.isEmpty()) {
                    break;
                }
                pull(b, out);
                if (b.isEmpty()) {
                    break;
                }
                Rec tailA = a.get(0);
                int second = sought(b, it -> !test(it, tailA));
                for (int i = 0; i < second; i++) {
                    pull(b, out);
                }
                if (b.isEmpty()) {
                    break;
                }
                pull(a, out);
                if (a.isEmpty()) {
                    break;
                }
                if (first < cost[10] && second < cost[10]) {
                    cost[10] = Math.min(9, cost[10] + 1);
                    leaping = false;
                    runA = 0;
                    runB = 0;
                } else {
                    cost[10] = Math.max(1, cost[10] - 1);
                }
            }
            cost[1] += b.size();
            out.addAll(b);
            out.addAll(a);
            Collections.reverse(out);
            return out;
        }
    }

    static int sought(List<Rec> in, Predicate<Rec> passes) {
        int lastPassed = -1;
        int refused = in.size();
        int tried = 0;
        while (tried < in.size()) {
            if (!passes.test(in.get(tried))) {
                refused = tried;
                break;
            }
            lastPassed = tried;
            tried = 2 * tried + 2;
        }
        int low = lastPassed + 1;
        int high = refused;
        while (low < high) {
            int mid = (low + high) / 2;
            if (passes.test(in.get(mid))) {
                low = mid + 1;
            } else {
                high = mid;
            }
        }
        return low;
    }

    static boolean lessKeys(int order, int a, int b) {
        if (order == 0) {
            return a < b;
        }
        if (order == 1) {
            return a > b;
        }
        if (order == 2) {
            return a % 5 < b % 5;
        }
        String vowels = "aeiou";
        return vowels.indexOf('a' + a) >= 0 && vowels.indexOf('a' + b) < 0;
    }

    private static final int BAD = -1, NO = -2, FULL = -3, NONE = -4;
    private static final int[] LOW = {0, 0, 2, 1};
    private static final int[] HIGH = {3, 2, 9, 9};

    final StringBuilder text = new StringBuilder();
    final List<Integer> laidKeys = new ArrayList<>();
    final int[] rules = {0, 0, 4, 3};
    Sorting now;

    Model() {
        for (char c : "hgfedcbaabcdefzzyyxxaaaaabbbbbcccqponmlkj".toCharArray()) {
            laidKeys.add(c - 'a');
        }
        again();
    }

    void again() {
        now = new Sorting(laidKeys, rules, rules[1]);
    }

    private static boolean in(int x, int low, int high) {
        return low <= x && x <= high;
    }

    int write(int letter) {
        if (!in(letter, 32, 126)) {
            return BAD;
        }
        if (text.length() == 200) {
            return FULL;
        }
        return text.append((char) letter).length();
    }

    int wipe() {
        int was = text.length();
        text.setLength(0);
        return was;
    }

    int fault() {
        for (int i = 0; i < text.length(); i++) {
            if (i == 96 || !Character.isLowerCase(text.charAt(i))) {
                return i;
            }
        }
        return NONE;
    }

    int lay() {
        if (text.length() == 0 || fault() >= 0) {
            return NO;
        }
        laidKeys.clear();
        for (int i = 0; i < text.length(); i++) {
            laidKeys.add(text.charAt(i) - 'a');
        }
        again();
        return laidKeys.size();
    }

    int rule(int what, int number) {
        if (!in(what, 0, 3) || !in(number, LOW[what], HIGH[what])) {
            return BAD;
        }
        int was = rules[what];
        if (was == number) {
            return NO;
        }
        rules[what] = number;
        again();
        return was;
    }

    int put(int i, int key) {
        if (!in(i, 0, laidKeys.size() - 1) || !in(key, 0, 25)) {
            return BAD;
        }
        if (laidKeys.get(i) == key) {
            return NO;
        }
        int was = laidKeys.set(i, key);
        again();
        return was;
    }

    int start() {
        int was = now.cost[11];
        again();
        return was;
    }

    int step(int n) {
        if (!in(n, 1, 400)) {
            return BAD;
        }
        int done = 0;
        while (done < n && now.stepOnce()) {
            done++;
        }
        return done;
    }

    int next() {
        return now.plan()[0];
    }

    int at(int i, int what) {
        if (!in(i, 0, laidKeys.size() - 1) || !in(what, 0, 1)) {
            return BAD;
        }
        return what == 0 ? now.row.get(i).key : now.row.get(i).tag;
    }

    int place(int tag) {
        for (int i = 0; i < now.row.size(); i++) {
            if (now.row.get(i).tag == tag) {
                return i;
            }
        }
        return BAD;
    }

    int run(int i, int what) {
        if (i < -1 || !in(what, 0, 2)) {
            return BAD;
        }
        int d = now.stack.size();
        if (i == -1) {
            return d;
        }
        if (i >= d) {
            return NONE;
        }
        if (what < 2) {
            return now.stack.get(i)[what];
        }
        int[] behind = i + 1 < d ? now.stack.get(i + 1) : now.waiting;
        return behind == null ? NONE : now.powerOf(now.stack.get(i), behind);
    }

    int waiting() {
        return now.waiting == null ? NONE : now.waiting[1];
    }

    int due() {
        int[] plan = now.plan();
        return plan[0] == 3 ? plan[1] : NONE;
    }

    int cost(int what) {
        return in(what, 0, 11) ? now.cost[what] : BAD;
    }

    int would(int policy, int what) {
        if (!in(policy, 0, 2) || !in(what, 0, 11)) {
            return BAD;
        }
        Sorting other = new Sorting(laidKeys, rules, policy);
        boolean goesOn = true;
        while (goesOn) {
            goesOn = other.stepOnce();
        }
        return other.cost[what];
    }

    int descents() {
        int many = 0;
        for (int i = 1; i < now.row.size(); i++) {
            if (lessKeys(rules[0], now.row.get(i).key, now.row.get(i - 1).key)) {
                many++;
            }
        }
        return many;
    }

    int inversions() {
        int many = 0;
        for (int i = 0; i < now.row.size(); i++) {
            for (int j = i + 1; j < now.row.size(); j++) {
                if (lessKeys(rules[0], now.row.get(j).key, now.row.get(i).key)) {
                    many++;
                }
            }
        }
        return many;
    }

    int seek(int i, int j, int key, int what) {
        int n = laidKeys.size();
        if (!in(i, 0, n) || !in(j, 0, n) || i > j || !in(key, 0, 25) || !in(what, 0, 1)) {
            return BAD;
        }
        for (int k = i + 1; k < j; k++) {
            if (lessKeys(rules[0], now.row.get(k).key, now.row.get(k - 1).key)) {
                return NO;
            }
        }
        int[] tests = {0};
        int many = sought(now.row.subList(i, j), it -> {
            tests[0]++;
            return lessKeys(rules[0], it.key, key);
        });
        return what == 0 ? many : tests[0];
    }

    int less(int a, int b) {
        if (!in(a, 0, 25) || !in(b, 0, 25)) {
            return BAD;
        }
        return lessKeys(rules[0], a, b) ? 1 : 0;
    }

    int count(int what) {
        switch (what) {
            case 0: return laidKeys.size();
            case 1: case 2: case 3: case 4: return rules[what - 1];
            case 5: return text.length();
            case 6: return now.covered;
            case 7: return next() == 0 ? 1 : 0;
            default: return BAD;
        }
    }
}
