import java.util.ArrayList;
import java.util.List;

/** Each promise by itself: ordinary inputs, the edges, wrong inputs; answers worked out by hand. */
public final class PromiseTest {
    private static final int BAD = -1, NO = -2, FULL = -3, NONE = -4;
    private static final String FIRST = "hgfedcbaabcdefzzyyxxaaaaabbbbbcccqponmlkj";
    private static final int MIN = Integer.MIN_VALUE, MAX = Integer.MAX_VALUE;

    private static int wrong = 0;
    private static int promise = 0;

    public static void main(String[] args) {
        newObject();
        write();
        wipe();
        fault();
        lay();
        rule();
        put();
        start();
        step();
        next();
        at();
        place();
        run();
        waiting();
        due();
        cost();
        costOfFinding();
        costOfMergingBack();
        costOfLeaping();
        would();
        descents();
        inversions();
        seek();
        less();
        count();
        sortedAndStable();
        System.out.println(wrong == 0 ? "all promises hold" : wrong + " answers are not as due");
        if (wrong != 0) {
            System.exit(1);
        }
    }

    private static void due(String call, int got, int want) {
        if (got != want) {
            wrong++;
            System.out.println("promise " + promise + ": " + call + " answered " + got + ", due is " + want);
        }
    }

    private static void write(RunSorter x, String letters) {
        for (char c : letters.toCharArray()) {
            x.write(c);
        }
    }

    private static RunSorter laid(String letters) {
        RunSorter x = new RunSorter();
        write(x, letters);
        due("lay() of " + letters, x.lay(), letters.length());
        return x;
    }

    /** RUNS that go UP, of these lengths (2 to 26), as they lie. */
    private static RunSorter laidRuns(int policy, int... lengths) {
        StringBuilder text = new StringBuilder();
        for (int length : lengths) {
            text.append("abcdefghijklmnopqrstuvwxyz", 0, length);
        }
        RunSorter x = laid(text.toString());
        x.rule(2, 2);
        x.rule(1, policy);
        return x;
    }

    private static void rowIs(RunSorter x, String keys, int... tags) {
        for (int i = 0; i < keys.length(); i++) {
            due("at(" + i + ", 0)", x.at(i, 0), keys.charAt(i) - 'a');
            if (tags.length > 0) {
                due("at(" + i + ", 1)", x.at(i, 1), tags[i]);
                due("place(" + tags[i] + ")", x.place(tags[i]), i);
            }
        }
        due("count(0)", x.count(0), keys.length());
    }

    private static void costsAre(RunSorter x, int... costs) {
        for (int what = 0; what < costs.length; what++) {
            due("cost(" + what + ")", x.cost(what), costs[what]);
        }
    }

    private static void isAtStart(RunSorter x, int leap) {
        costsAre(x, 0, 0, 0, 0, 0, 0, 0, 0, 0, 0, leap, 0);
        due("run(-1, 0)", x.run(-1, 0), 0);
        due("waiting()", x.waiting(), NONE);
        due("due()", x.due(), NONE);
        due("next()", x.next(), 2);
        due("count(6)", x.count(6), 0);
        for (int i = 0; i < x.count(0); i++) {
            due("at(" + i + ", 1)", x.at(i, 1), i);
        }
    }

    private static void newObject() {
        promise = 1;
        RunSorter x = new RunSorter();
        rowIs(x, FIRST);
        isAtStart(x, 3);
        int[] counts = {41, 0, 0, 4, 3, 0, 0, 0};
        for (int what = 0; what < counts.length; what++) {
            due("count(" + what + ")", x.count(what), counts[what]);
        }
        due("fault()", x.fault(), NONE);
        due("lay()", x.lay(), NO);
        due("wipe()", x.wipe(), 0);
        due("start()", x.start(), 0);
    }

    private static void write() {
        promise = 2;
        RunSorter x = new RunSorter();
        int[] bads = {31, 127, 0, -1, MIN, MAX};
        for (int bad : bads) {
            due("write(" + bad + ")", x.write(bad), BAD);
        }
        due("count(5)", x.count(5), 0);
        due("write(32)", x.write(32), 1);
        due("write(126)", x.write(126), 2);
        for (int i = 3; i <= 200; i++) {
            due("write('q')", x.write('q'), i);
        }
        due("write('q')", x.write('q'), FULL);
        due("write(127)", x.write(127), BAD);
        due("count(5)", x.count(5), 200);
        due("wipe()", x.wipe(), 200);
        due("write('q')", x.write('q'), 1);
        rowIs(x, FIRST);
    }

    private static void wipe() {
        promise = 3;
        RunSorter x = laid("bca");
        x.step(1);
        due("wipe()", x.wipe(), 3);
        due("wipe()", x.wipe(), 0);
        due("count(5)", x.count(5), 0);
        due("count(0)", x.count(0), 3);
        due("cost(11)", x.cost(11), 1);
        due("lay()", x.lay(), NO);
    }

    private static void fault() {
        promise = 4;
        RunSorter x = new RunSorter();
        due("fault()", x.fault(), NONE);
        write(x, "az");
        due("fault()", x.fault(), NONE);
        char[] noSmallOnes = {'`', '{', 'A', 'Z', ' ', '~', '0'};
        for (char c : noSmallOnes) {
            x.wipe();
            write(x, "az" + c + "b" + c);
            due("fault() with " + c, x.fault(), 2);
        }
        x.wipe();
        write(x, "a".repeat(96));
        due("fault() of 96", x.fault(), NONE);
        x.write('a');
        due("fault() of 97", x.fault(), 96);
        x.write('B');
        due("fault() of 98", x.fault(), 96);
        x.wipe();
        write(x, "a".repeat(95) + "B" + "a".repeat(10));
        due("fault()", x.fault(), 95);
        x.wipe();
        write(x, "B");
        due("fault()", x.fault(), 0);
    }

    private static void lay() {
        promise = 5;
        RunSorter x = new RunSorter();
        x.step(5);
        due("lay()", x.lay(), NO);
        write(x, "aB");
        due("lay()", x.lay(), NO);
        due("cost(11)", x.cost(11), 5);
        due("count(0)", x.count(0), 41);
        x.wipe();
        write(x, "a".repeat(97));
        due("lay()", x.lay(), NO);
        due("cost(11)", x.cost(11), 5);
        x.wipe();
        x.rule(0, 1);
        x.rule(1, 2);
        x.rule(2, 5);
        x.rule(3, 6);
        x.step(3);
        write(x, "z".repeat(96));
        due("lay()", x.lay(), 96);
        isAtStart(x, 6);
        due("count(1)", x.count(1), 1);
        due("count(2)", x.count(2), 2);
        due("count(3)", x.count(3), 5);
        due("count(4)", x.count(4), 6);
        due("count(5)", x.count(5), 96);
        x.wipe();
        write(x, "m");
        due("lay()", x.lay(), 1);
        rowIs(x, "m", 0);
        due("lay()", x.lay(), 1);
    }

    private static void rule() {
        promise = 6;
        RunSorter x = new RunSorter();
        x.step(4);
        int[][] bads = {{-1, 0}, {4, 0}, {MIN, 0}, {MAX, 0}, {0, -1}, {0, 4}, {1, -1}, {1, 3}, {2, 1},
            {2, 10}, {3, 0}, {3, 10}, {0, MIN}, {0, MAX}};
        for (int[] bad : bads) {
            due("rule(" + bad[0] + ", " + bad[1] + ")", x.rule(bad[0], bad[1]), BAD);
        }
        int[] first = {0, 0, 4, 3};
        for (int what = 0; what < 4; what++) {
            due("rule() as it is", x.rule(what, first[what]), NO);
        }
        due("cost(11)", x.cost(11), 4);
        int[] lowest = {0, 0, 2, 1};
        int[] highest = {3, 2, 9, 9};
        for (int what = 0; what < 4; what++) {
            int before = first[what];
            for (int number = lowest[what]; number <= highest[what]; number++) {
                x.step(2);
                due("rule(" + what + ", " + number + ")", x.rule(what, number), number == before ? NO : before);
                before = number;
                due("count(" + (what + 1) + ")", x.count(what + 1), number);
            }
            isAtStart(x, x.count(4));
        }
    }

    private static void put() {
        promise = 7;
        RunSorter x = laid("dcba");
        x.step(1);
        rowIs(x, "abcd", 3, 2, 1, 0);
        int[][] bads = {{-1, 0}, {4, 0}, {MIN, 0}, {MAX, 0}, {0, -1}, {0, 26}, {0, MIN}, {0, MAX}};
        for (int[] bad : bads) {
            due("put(" + bad[0] + ", " + bad[1] + ")", x.put(bad[0], bad[1]), BAD);
        }
        due("put(0, 3)", x.put(0, 3), NO);
        due("cost(11)", x.cost(11), 1);
        due("put(0, 0)", x.put(0, 0), 3);
        isAtStart(x, 3);
        rowIs(x, "acba", 0, 1, 2, 3);
        due("put(3, 25)", x.put(3, 25), 0);
        rowIs(x, "acbz", 0, 1, 2, 3);
        x.step(400);
        due("start()", x.start(), 2);
        rowIs(x, "acbz", 0, 1, 2, 3);
        due("lay()", x.lay(), 4);
        rowIs(x, "dcba", 0, 1, 2, 3);
    }

    private static void start() {
        promise = 8;
        RunSorter x = laidRuns(0, 4, 4);
        due("start()", x.start(), 0);
        due("step(3)", x.step(3), 3);
        due("start()", x.start(), 3);
        isAtStart(x, 3);
        due("step(400)", x.step(400), 5);
        due("start()", x.start(), 5);
        due("start()", x.start(), 0);
        rowIs(x, "abcdabcd", 0, 1, 2, 3, 4, 5, 6, 7);
    }

    private static void step() {
        promise = 9;
        RunSorter x = laidRuns(0, 4, 4);
        int[] bads = {0, -1, 401, MIN, MAX};
        for (int bad : bads) {
            due("step(" + bad + ")", x.step(bad), BAD);
        }
        due("cost(11)", x.cost(11), 0);
        due("step(1)", x.step(1), 1);
        due("step(3)", x.step(3), 3);
        due("step(400)", x.step(400), 1);
        due("step(400)", x.step(400), 0);
        due("step(1)", x.step(1), 0);
        due("step(401)", x.step(401), BAD);
        due("cost(11)", x.cost(11), 5);
        rowIs(x, "aabbccdd", 0, 4, 1, 5, 2, 6, 3, 7);
    }

    private static void next() {
        promise = 10;
        RunSorter x = laidRuns(0, 4, 4, 4, 4);
        int[] kinds = {2, 1, 2, 1, 2, 3, 1, 2, 1, 3, 3, 0, 0};
        kindsAre(x, kinds);
        // By POLICY 1 a RUN is PUSHED always; then it is looked whether a MERGE is DUE.
        kindsAre(laidRuns(1, 4, 4, 4, 4), new int[] {2, 1, 2, 1, 3, 2, 1, 3, 2, 1, 2 + 1, 0});
        kindsAre(laidRuns(2, 4, 4, 4), new int[] {2, 1, 2, 1, 3, 2, 1, 3, 0});
        kindsAre(laid("a"), new int[] {2, 1, 0});
    }

    private static void kindsAre(RunSorter x, int[] kinds) {
        for (int kind : kinds) {
            due("next()", x.next(), kind);
            due("count(7)", x.count(7), kind == 0 ? 1 : 0);
            x.step(1);
        }
    }

    private static void at() {
        promise = 11;
        RunSorter x = laid("zcba");
        int[][] bads = {{-1, 0}, {4, 0}, {0, -1}, {0, 2}, {MIN, 0}, {MAX, 1}, {0, MAX}};
        for (int[] bad : bads) {
            due("at(" + bad[0] + ", " + bad[1] + ")", x.at(bad[0], bad[1]), BAD);
        }
        rowIs(x, "zcba", 0, 1, 2, 3);
        x.step(1);
        rowIs(x, "abcz", 3, 2, 1, 0);
    }

    private static void place() {
        promise = 12;
        RunSorter x = laid("zcba");
        int[] bads = {-1, 4, MIN, MAX};
        for (int bad : bads) {
            due("place(" + bad + ")", x.place(bad), BAD);
        }
        due("place(0)", x.place(0), 0);
        x.step(1);
        due("place(0)", x.place(0), 3);
        due("place(3)", x.place(3), 0);
        due("place(4)", x.place(4), BAD);
    }

    private static void run() {
        promise = 13;
        RunSorter x = laidRuns(0, 4, 4, 4, 4);
        int[][] bads = {{-2, 0}, {MIN, 0}, {0, -1}, {0, 3}, {-2, 9}, {9, 3}, {0, MAX}};
        for (int[] bad : bads) {
            due("run(" + bad[0] + ", " + bad[1] + ")", x.run(bad[0], bad[1]), BAD);
        }
        due("run(0, 0)", x.run(0, 0), NONE);
        x.step(1);
        due("run(-1, 0) with one WAITING", x.run(-1, 0), 0);
        x.step(1);
        runIs(x, 0, 0, 4, NONE);
        due("run(1, 0)", x.run(1, 0), NONE);
        due("run(MAX, 0)", x.run(MAX, 0), NONE);
        x.step(1);
        runIs(x, 0, 0, 4, 2);
        x.step(2);
        runIs(x, 0, 0, 4, 2);
        runIs(x, 1, 4, 4, 1);
        due("run(-1, 2)", x.run(-1, 2), 2);
        due("run(2, 1) while it is WAITING", x.run(2, 1), NONE);
        x.step(1);
        runIs(x, 0, 0, 8, 1);
        x.step(3);
        runIs(x, 0, 0, 8, 1);
        runIs(x, 1, 8, 4, 2);
        runIs(x, 2, 12, 4, NONE);
        x.step(400);
        runIs(x, 0, 0, 16, NONE);
        due("run(-1, 1)", x.run(-1, 1), 1);
        powerAtItsEdges();
    }

    private static void runIs(RunSorter x, int i, int place, int length, int power) {
        due("run(" + i + ", 0)", x.run(i, 0), place);
        due("run(" + i + ", 1)", x.run(i, 1), length);
        due("run(" + i + ", 2)", x.run(i, 2), power);
    }

    private static void powerAtItsEdges() {
        // 94 and 2 of 96: 94 and 190 of 192: 188 / 192 is 0, 380 / 192 is 1.
        RunSorter x = laid("a".repeat(93) + "bab");
        x.rule(2, 2);
        x.step(3);
        runIs(x, 0, 0, 94, 1);
        // 2 and 2 of 96: 2 and 6 of 192: 64 / 192 is 0 and 192 / 192 is 1 at last, for k = 5.
        x = laid("abab" + "b".repeat(92));
        x.put(4, 0);
        x.rule(2, 2);
        x.step(3);
        runIs(x, 0, 0, 2, 5);
    }

    private static void waiting() {
        promise = 14;
        RunSorter x = laidRuns(0, 5, 3);
        due("waiting()", x.waiting(), NONE);
        x.step(1);
        due("waiting()", x.waiting(), 5);
        x.step(1);
        due("waiting()", x.waiting(), NONE);
        x.step(1);
        due("waiting()", x.waiting(), 3);
        x.step(400);
        due("waiting()", x.waiting(), NONE);
        // While RUNS below it are MERGED it goes on WAITING.
        x = laidRuns(0, 4, 4, 4, 4);
        x.step(6);
        due("waiting()", x.waiting(), 4);
    }

    private static void due() {
        promise = 15;
        dueIs(laidRuns(0, 4, 4, 4, 4), NONE, NONE, NONE, NONE, NONE, 0, NONE, NONE, NONE, 1, 0, NONE);
        // POLICY 1: 4 is no more than twice 2, 5 is more.
        dueIs(laidRuns(1, 4, 2), NONE, NONE, NONE, NONE, 0, NONE);
        dueIs(laidRuns(1, 5, 2, 2), NONE, NONE, NONE, NONE, NONE, NONE, 1, 0, NONE);
        dueIs(laidRuns(1, 5, 2), NONE, NONE, NONE, NONE, 0, NONE);
        // POLICY 2, two: 4 is no more than 4, 5 is more than 4 (so it is found on).
        dueIs(laidRuns(2, 4, 4), NONE, NONE, NONE, NONE, 0, NONE);
        dueIs(laidRuns(2, 7, 4, 2), NONE, NONE, NONE, NONE, NONE, NONE, 1, 0, NONE);
        // Three: 6 is no more than 4 and 2; it is not less than 2: the top two.
        dueIs(laidRuns(2, 6, 4, 2, 2), NONE, NONE, NONE, NONE, NONE, NONE, 1, 0, NONE, NONE, 0, NONE);
        // Three: 5 is less than 6: the lower two; 5 is not less than 5: the top two.
        dueIs(laidRuns(2, 5, 4, 6), NONE, NONE, NONE, NONE, NONE, NONE, 0, 0, NONE);
        dueIs(laidRuns(2, 5, 4, 5), NONE, NONE, NONE, NONE, NONE, NONE, 1, 0, NONE);
        // Four: 24 16 9 6 behind the first MERGE: 24 is no more than 16 and 9, with RECORDS left.
        dueIs(laidRuns(2, 24, 16, 5, 4, 6, 2), NONE, NONE, NONE, NONE, NONE, NONE, NONE, NONE, NONE, NONE,
                2, 2, 1, 0, NONE, NONE, 0, NONE);
    }

    private static void dueIs(RunSorter x, int... answers) {
        for (int i = 0; i < answers.length; i++) {
            due("due() behind " + i + " STEPS", x.due(), answers[i]);
            x.step(1);
        }
    }

    private static void cost() {
        promise = 16;
        RunSorter x = laidRuns(0, 4, 4);
        int[] bads = {-1, 12, MIN, MAX};
        for (int bad : bads) {
            due("cost(" + bad + ")", x.cost(bad), BAD);
        }
        x.step(1);
        costsAre(x, 4, 0, 1, 0, 0, 0, 0, 0, 0, 0, 3, 1);
        x.step(1);
        costsAre(x, 4, 0, 1, 0, 0, 0, 0, 0, 1, 0, 3, 2);
        x.step(2);
        costsAre(x, 7, 0, 2, 0, 0, 0, 0, 0, 2, 0, 3, 4);
        // SEEK in A: 3 TESTS, 1 stays; in B: 3 TESTS, 3 are B; SINGLY: 5; 3 and 5 and 1 MOVES.
        x.step(1);
        costsAre(x, 18, 9, 2, 0, 0, 1, 8, 3, 2, 0, 3, 5);
    }

    private static void costOfFinding() {
        // One alone: no TEST.
        RunSorter x = laid("a");
        x.step(1);
        costsAre(x, 0, 0, 1, 0, 0, 0, 0, 0, 0, 0, 3, 1);
        // DOWN, three: turned round with 2 MOVES; c b a, then d at its end: no MOVE, 2 TESTS.
        x = laid("cbad");
        x.step(1);
        rowIs(x, "abcd", 2, 1, 0, 3);
        costsAre(x, 3 + 2, 2, 1, 1, 1, 0, 0, 0, 0, 0, 3, 1);
        // Like ones do not go DOWN: b b, then a to the front (2 TESTS, 3 MOVES), a behind it (2, 3).
        x = laid("bbaa");
        x.step(1);
        rowIs(x, "aabb", 2, 3, 0, 1);
        costsAre(x, 2 + 2 + 2, 6, 1, 0, 1, 0, 0, 0, 0, 0, 3, 1);
        // LEAST 9, but none is left: not made longer.
        x = laid("abc");
        x.rule(2, 9);
        x.step(1);
        costsAre(x, 2, 0, 1, 0, 0, 0, 0, 0, 0, 0, 3, 1);
        // LEAST 9 and fewer left: made longer by what is left.
        x = laid("abca");
        x.rule(2, 9);
        x.step(1);
        due("waiting()", x.waiting(), 4);
        rowIs(x, "aabc", 0, 3, 1, 2);
        // a b c a: 3 TESTS; middle 1: a LESS than b; middle 0: not LESS than a.
        costsAre(x, 3 + 2, 3, 1, 0, 1, 0, 0, 0, 0, 0, 3, 1);
        // LEAST 2: two are enough.
        x = laid("aba");
        x.rule(2, 2);
        x.step(1);
        due("waiting()", x.waiting(), 2);
        due("cost(4)", x.cost(4), 0);
    }

    private static void costOfMergingBack() {
        RunSorter x = laid("cdefghabde");
        x.step(4);
        costsAre(x, 9, 0, 2, 0, 0, 0, 0, 0, 2, 0, 3, 4);
        // SEEKS 1 and 3 TESTS; ROOM 4; h g f SINGLY; a round that tells 0 and 0; d, d, c SINGLY;
        // a and b out of the ROOM.
        x.step(1);
        rowIs(x, "abcddeefgh", 6, 7, 0, 1, 8, 2, 9, 3, 4, 5);
        costsAre(x, 21, 14, 2, 0, 0, 1, 10, 4, 2, 1, 4, 5);
        // One alone is brought in from behind: SEEK in A 1 TEST, in B 1; BACK, ROOM 1.
        x = laid("eghhhija");
        x.rule(2, 2);
        x.step(400);
        rowIs(x, "aeghhhij", 7, 0, 1, 2, 3, 4, 5, 6);
        // j i h SINGLY, then a round: SEEK from behind in A (h h g e): 0, 2, then 3: all of them.
        costsAre(x, 7 + 1 + 1 + 3 + 3, 1 + 3 + 4 + 1, 2, 0, 0, 1, 8, 1, 2, 1, 3, 5);
        // All of A stays (it was made longer, so B may begin later): SEEK alone, 0, 2, then 3.
        x = laid("baabcdef");
        x.step(400);
        rowIs(x, "aabbcdef", 1, 2, 0, 3, 4, 5, 6, 7);
        costsAre(x, 6 + 3 + 3, 4, 2, 1, 1, 1, 8, 0, 2, 0, 3, 5);
    }

    private static void costOfLeaping() {
        // A: b x 4, B: a x 4. SEEK in A: 1 TEST; in B: 0, 2, then 3: 3 TESTS. FORWARD, ROOM 4.
        // SINGLY 3 of B; a round: SEEK in A 1 TEST, 0; the last of B; it ends; 4 out of the ROOM.
        RunSorter x = laid("bbbbaaaa");
        x.step(400);
        rowIs(x, "aaaabbbb", 4, 5, 6, 7, 0, 1, 2, 3);
        costsAre(x, 4 + 3 + 1 + 3 + 3 + 1, 4 + 3 + 1 + 4, 2, 0, 0, 1, 8, 4, 2, 1, 3, 5);
        // LEAP 1: one SINGLY, then a round: 0 of A, one of B, then 2 of B: it ends so.
        x.rule(3, 1);
        x.step(400);
        costsAre(x, 4 + 3 + 1 + 3 + 1 + 1 + 2, 4 + 1 + 1 + 2 + 4, 2, 0, 0, 1, 8, 4, 2, 1, 1, 5);
        // LEAP 9: SINGLY to the end.
        x.rule(3, 9);
        x.step(400);
        costsAre(x, 4 + 3 + 1 + 3 + 4, 4 + 4 + 4, 2, 0, 0, 1, 8, 4, 2, 0, 9, 5);
        // A: b b d d, B: a a a a c c. LEAP 2. SEEK in A 1 TEST; in B 0, 2, then 4, 5: 4 TESTS.
        // FORWARD, ROOM 4; a a SINGLY; round 1: SEEK in A 1 TEST, 0; a; SEEK in B: 0 (a) PASSES,
        // 2 (c) does not, 1 (c) does not: 3 TESTS, 1; a; b of A. Both told fewer than 2: LEAP NOW 3,
        // SINGLY: b, c, c (2 and 1 TESTS): B has none left; d d out of the ROOM.
        x = laid("bbddaaaacc");
        x.rule(3, 2);
        x.step(400);
        rowIs(x, "aaaabbccdd", 4, 5, 6, 7, 0, 1, 8, 9, 2, 3);
        costsAre(x, 4 + 5 + 1 + 4 + 2 + 1 + 3 + 3, 4 + 2 + 1 + 1 + 1 + 3 + 2, 2, 0, 0, 1, 10, 4, 2, 1, 3, 5);
    }

    private static void would() {
        promise = 17;
        RunSorter x = new RunSorter();
        x.step(3);
        int[][] bads = {{-1, 0}, {3, 0}, {0, -1}, {0, 12}, {MIN, 0}, {MAX, 0}, {0, MIN}, {0, MAX}};
        for (int[] bad : bads) {
            due("would(" + bad[0] + ", " + bad[1] + ")", x.would(bad[0], bad[1]), BAD);
        }
        due("would(1, 0)", x.would(1, 0), 136);
        due("would(2, 6)", x.would(2, 6), 109);
        due("would(0, 11)", x.would(0, 11), 14);
        due("cost(11)", x.cost(11), 3);
        due("waiting()", x.waiting(), 8);
        // The ROW as LAID, with what was put anew, by ORDER, LEAST and LEAP as told.
        x.put(3, 25);
        x.rule(0, 2);
        x.rule(2, 7);
        x.rule(3, 1);
        for (int policy = 0; policy < 3; policy++) {
            int[] told = new int[12];
            for (int what = 0; what < 12; what++) {
                told[what] = x.would(policy, what);
            }
            x.rule(1, policy);
            x.step(400);
            costsAre(x, told);
        }
    }

    private static void descents() {
        promise = 18;
        RunSorter x = laid("cbabc");
        due("descents()", x.descents(), 2);
        x.rule(0, 1);
        due("descents()", x.descents(), 2);
        x.rule(0, 3);
        due("descents()", x.descents(), 1);
        x.step(400);
        due("descents()", x.descents(), 0);
        x = laid("aabb");
        due("descents()", x.descents(), 0);
        x = laid("m");
        due("descents()", x.descents(), 0);
        x = laid("ef");
        x.rule(0, 2);
        due("descents()", x.descents(), 1);
        due("cost(0)", x.cost(0), 0);
    }

    private static void inversions() {
        promise = 19;
        RunSorter x = laid("cbabc");
        due("inversions()", x.inversions(), 4);
        x.rule(0, 1);
        due("inversions()", x.inversions(), 4);
        x.rule(0, 3);
        due("inversions()", x.inversions(), 2);
        x.rule(0, 0);
        x.step(1);
        // c b a turned round, then b comes into it, which is LEAST: a b b c c.
        due("inversions()", x.inversions(), 0);
        due("cost(0)", x.cost(0), 5);
        StringBuilder down = new StringBuilder();
        for (int i = 0; i < 96; i++) {
            down.append((char) ('z' - i / 4));
        }
        x = laid(down.toString());
        due("inversions()", x.inversions(), 96 * 95 / 2 - 24 * 6);
        due("inversions() of one", laid("m").inversions(), 0);
    }

    private static void seek() {
        promise = 20;
        RunSorter x = laid("aabbccddeeba");
        due("seek(0, 10, 2, 0)", x.seek(0, 10, 2, 0), 4);
        due("seek(0, 10, 2, 1)", x.seek(0, 10, 2, 1), 5);
        due("seek(0, 10, 0, 0)", x.seek(0, 10, 0, 0), 0);
        due("seek(0, 10, 0, 1)", x.seek(0, 10, 0, 1), 1);
        due("seek(0, 10, 25, 0)", x.seek(0, 10, 25, 0), 10);
        due("seek(0, 10, 25, 1)", x.seek(0, 10, 25, 1), 5);
        due("seek(2, 4, 1, 0)", x.seek(2, 4, 1, 0), 0);
        due("seek(3, 7, 3, 0)", x.seek(3, 7, 3, 0), 3);
        due("seek(5, 5, 3, 0)", x.seek(5, 5, 3, 0), 0);
        due("seek(5, 5, 3, 1)", x.seek(5, 5, 3, 1), 0);
        due("seek(12, 12, 3, 1)", x.seek(12, 12, 3, 1), 0);
        due("seek(0, 0, 3, 0)", x.seek(0, 0, 3, 0), 0);
        due("seek(0, 11, 2, 0)", x.seek(0, 11, 2, 0), NO);
        due("seek(9, 11, 2, 0)", x.seek(9, 11, 2, 0), NO);
        // The one ahead of the first is none of them.
        due("seek(10, 11, 2, 0)", x.seek(10, 11, 2, 0), 1);
        due("seek(11, 12, 0, 0)", x.seek(11, 12, 0, 0), 0);
        int[][] bads = {{-1, 3, 0, 0}, {0, 13, 0, 0}, {4, 3, 0, 0}, {0, 3, -1, 0}, {0, 3, 26, 0},
            {0, 3, 0, -1}, {0, 3, 0, 2}, {0, 12, 26, 0}, {13, 13, 0, 0}, {MIN, MAX, 0, 0},
            {MAX, MAX, 0, 0}, {0, 12, 0, 2}};
        for (int[] b : bads) {
            due("seek(" + b[0] + ", " + b[1] + ", " + b[2] + ", " + b[3] + ")",
                    x.seek(b[0], b[1], b[2], b[3]), BAD);
        }
        due("cost(0)", x.cost(0), 0);
        // By ORDER 1, and in the ROW as it is now.
        x.rule(0, 1);
        due("seek(0, 3, 0, 0)", x.seek(0, 3, 0, 0), NO);
        x.step(400);
        int tests = x.cost(0);
        due("seek(0, 12, 1, 0)", x.seek(0, 12, 1, 0), 6);
        due("cost(0)", x.cost(0), tests);
    }

    private static void less() {
        promise = 21;
        RunSorter x = new RunSorter();
        int[][] bads = {{-1, 0}, {26, 0}, {0, -1}, {0, 26}, {MIN, 0}, {0, MAX}};
        for (int[] bad : bads) {
            due("less(" + bad[0] + ", " + bad[1] + ")", x.less(bad[0], bad[1]), BAD);
        }
        due("cost(0)", x.cost(0), 0);
        for (int order = 0; order < 4; order++) {
            for (int a = 0; a < 26; a++) {
                x = new RunSorter();
                x.rule(0, order);
                for (int b = 0; b < 26; b++) {
                    boolean vowelFirst = "aeiou".indexOf('a' + a) >= 0 && "aeiou".indexOf('a' + b) < 0;
                    boolean[] answers = {a < b, a > b, a % 5 < b % 5, vowelFirst};
                    due("less(" + a + ", " + b + ")", x.less(a, b), answers[order] ? 1 : 0);
                }
            }
        }
        due("cost(0)", x.cost(0), 0);
    }

    private static void count() {
        promise = 22;
        RunSorter x = laidRuns(2, 5, 3);
        x.rule(0, 0);
        x.rule(3, 7);
        x.write('?');
        int[] bads = {-1, 8, MIN, MAX};
        for (int bad : bads) {
            due("count(" + bad + ")", x.count(bad), BAD);
        }
        countsAre(x, 8, 0, 2, 2, 7, 9, 0, 0);
        x.step(1);
        countsAre(x, 8, 0, 2, 2, 7, 9, 5, 0);
        x.step(1);
        countsAre(x, 8, 0, 2, 2, 7, 9, 5, 0);
        x.step(1);
        countsAre(x, 8, 0, 2, 2, 7, 9, 8, 0);
        x.step(1);
        countsAre(x, 8, 0, 2, 2, 7, 9, 8, 0);
        x.step(1);
        countsAre(x, 8, 0, 2, 2, 7, 9, 8, 1);
        x.rule(0, 3);
        countsAre(x, 8, 3, 2, 2, 7, 9, 0, 0);
    }

    private static void countsAre(RunSorter x, int... counts) {
        for (int what = 0; what < counts.length; what++) {
            due("count(" + what + ")", x.count(what), counts[what]);
        }
    }

    private static void sortedAndStable() {
        promise = 9;
        for (int order = 0; order < 4; order++) {
            for (int policy = 0; policy < 3; policy++) {
                RunSorter x = new RunSorter();
                x.rule(0, order);
                x.rule(1, policy);
                x.step(400);
                List<Integer> tags = new ArrayList<>();
                for (int i = 0; i < FIRST.length(); i++) {
                    tags.add(i);
                }
                tags.sort((a, b) -> x.less(FIRST.charAt(b) - 'a', FIRST.charAt(a) - 'a')
                        - x.less(FIRST.charAt(a) - 'a', FIRST.charAt(b) - 'a'));
                for (int i = 0; i < tags.size(); i++) {
                    due("at(" + i + ", 1), order " + order + ", policy " + policy, x.at(i, 1), tags.get(i));
                }
            }
        }
    }
}
