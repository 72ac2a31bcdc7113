/**
 * Each sentence under 'Terms' that bounds how RUNS are FOUND, which are MERGED when, how a SEEK and
 * a MERGE go: the last case on the one side and the first on the other, with answers worked out by
 * hand.
 */
public final class StepBoundsTest {
    private static final int NONE = Checks.NONE;
    private static final int PUSHED = Checks.PUSHED, FOUND = Checks.FOUND, MERGED = Checks.MERGED, DONE = Checks.DONE;

    private static final int BY_POWERS = 0, BY_LIKE_LENGTHS = 1, BY_BALANCES = 2;

    private static final int TESTS = 0, MOVES = 1, DOWN = 3, LONGER = 4, MERGES = 5, TOGETHER = 6,
            ROOM = 7, STACK = 8, ROUNDS = 9, LEAP_NOW = 10, STEPS = 11;

    public static void main(String[] args) {
        oneAlone();
        secondLessThanFirst();
        downTillNotLess();
        downTillNoneIsThere();
        turnedRound();
        upTillLess();
        shorterThanLeast();
        tillNoneIsLeft();
        insertedByHalving();
        staysWhereItWas();
        powerOnALine();
        powerAtMost();
        waitingByPowers();
        dueAheadOfFound();
        mergedAtTheEnd();
        nothingIsLeft();
        dueByLikeLengths();
        dueByBalancesOfTwo();
        dueByBalancesOfThree();
        dueByBalancesOfFour();
        seekAmongMany();
        seekAmongAll();
        allOfAStay();
        someStay();
        forwardIfNoMore();
        alikeStandByTags();
        leapNowInARow();
        leapEndsWithTheMerge();
        inARowSinceItBegan();
        inARowSinceSingly();
        leapNowGoesOn();
        leapNowAtStart();
        forwardFewerThanLeapNow();
        leapNowOneLess();
        backFewerThanLeapNow();
        leapNowAtMost();
        leapNowAtLeast();
        roundThatEnds();
        mostInTheRoom();
        mostOnTheStack();
        Checks.end();
    }

    private static void says(String words) {
        Checks.says(words);
    }

    private static void due(String call, int got, int want) {
        Checks.due(call, got, want);
    }

    private static void costs(RunSorter x, int what, int want) {
        due("cost(" + what + ")", x.cost(what), want);
    }

    /** As it lies by LEAP, to the end: a MERGE whose answers are worked out beside the call. */
    private static RunSorter sorted(String letters, int leap) {
        RunSorter x = Checks.laidAsItLies(letters);
        x.rule(3, leap);
        x.step(400);
        if (letters.length() < 30) {
            Checks.isSorted(x);
        }
        return x;
    }

    private static void mergeCosts(RunSorter x, int tests, int moves, int room, int rounds, int leapNow) {
        costs(x, TESTS, tests);
        costs(x, MOVES, moves);
        costs(x, ROOM, room);
        costs(x, ROUNDS, rounds);
        costs(x, LEAP_NOW, leapNow);
    }

    // ---- a RUN is FOUND

    private static void oneAlone() {
        says("if there is one RECORD alone, that");
        RunSorter x = Checks.laid("m");
        x.step(1);
        due("waiting()", x.waiting(), 1);
        costs(x, TESTS, 0);
        costs(x, LONGER, 0);
        // At the end of a ROW: a b c d e a: 5 TESTS for the first RUN, none for the second.
        x = Checks.laid("abcdea");
        x.step(3);
        due("waiting()", x.waiting(), 1);
        costs(x, TESTS, 5);
        costs(x, DOWN, 0);
        costs(x, LONGER, 0);
    }

    private static void secondLessThanFirst() {
        says("is the second LESS than the first? If it is, it goes DOWN");
        String[] rows = {"ba", "aa", "ab"};
        int[] downs = {1, 0, 0};
        int[] moves = {2, 0, 0};
        for (int i = 0; i < rows.length; i++) {
            RunSorter x = Checks.laid(rows[i]);
            x.step(1);
            due("waiting() of " + rows[i], x.waiting(), 2);
            costs(x, TESTS, 1);
            costs(x, DOWN, downs[i]);
            costs(x, MOVES, moves[i]);
            Checks.tagsAre(x, downs[i], 1 - downs[i]);
        }
    }

    private static void downTillNotLess() {
        says("as long as the next one is there and LESS than the one ahead of it (a TEST each)");
        // c b, then b is not LESS than b.
        RunSorter x = Checks.laidAsItLies("cbba");
        x.step(1);
        due("waiting()", x.waiting(), 2);
        costs(x, TESTS, 2);
        Checks.tagsAre(x, 1, 0, 2, 3);
        // c b a, then b is not LESS than a.
        x = Checks.laidAsItLies("cbab");
        x.step(1);
        due("waiting()", x.waiting(), 3);
        costs(x, TESTS, 3);
        Checks.tagsAre(x, 2, 1, 0, 3);
    }

    private static void downTillNoneIsThere() {
        says("as long as the next one is there and LESS");
        RunSorter x = Checks.laid("zyxwvutsrqponmlkjihgfedcba");
        x.step(1);
        due("waiting()", x.waiting(), 26);
        costs(x, TESTS, 25);
        due("at(0, 1)", x.at(0, 1), 25);
        due("at(25, 1)", x.at(25, 1), 0);
    }

    private static void turnedRound() {
        says("all are turned round then (MOVES: twice their number by 2, cut)");
        int[] moves = {0, 0, 2, 2, 4, 4, 6};
        for (int length = 2; length <= 6; length++) {
            RunSorter x = Checks.laidAsItLies("fedcba".substring(0, length) + "z");
            x.step(1);
            due("waiting()", x.waiting(), length);
            costs(x, MOVES, moves[length]);
            for (int i = 0; i < length; i++) {
                due("at(" + i + ", 1)", x.at(i, 1), length - 1 - i);
            }
        }
    }

    private static void upTillLess() {
        says("it goes UP: as long as the next one is there and not LESS than the one ahead of it");
        RunSorter x = Checks.laidAsItLies("abbcb");
        x.step(1);
        due("waiting()", x.waiting(), 4);
        costs(x, TESTS, 4);
        costs(x, MOVES, 0);
        x = Checks.laid("m".repeat(96));
        x.step(1);
        due("waiting() of 96 alike", x.waiting(), 96);
        costs(x, TESTS, 95);
        costs(x, DOWN, 0);
    }

    private static void shorterThanLeast() {
        says("If it is shorter than LEAST and RECORDS are left");
        for (int least = 3; least <= 9; least++) {
            // One fewer than LEAST, and one that is LESS.
            RunSorter x = Checks.laid("bcdefghijk".substring(0, least - 1) + "aaa");
            x.rule(2, least);
            x.step(1);
            due("waiting() of LEAST " + least, x.waiting(), least);
            costs(x, LONGER, 1);
            due("at(0, 1)", x.at(0, 1), least - 1);
            // As many as LEAST.
            x = Checks.laid("bcdefghijk".substring(0, least) + "aaa");
            x.rule(2, least);
            x.step(1);
            due("waiting() of LEAST " + least, x.waiting(), least);
            costs(x, LONGER, 0);
            costs(x, MOVES, 0);
            // One more than LEAST.
            x = Checks.laid("bcdefghijk".substring(0, least + 1) + "aaa");
            x.rule(2, least);
            x.step(1);
            due("waiting() of LEAST " + least, x.waiting(), least + 1);
            costs(x, LONGER, 0);
        }
        // LEAST 2: two are there if RECORDS are left.
        RunSorter x = Checks.laidAsItLies("baba");
        x.step(400);
        costs(x, LONGER, 0);
        // None is left.
        x = Checks.laid("abc");
        x.step(1);
        due("waiting()", x.waiting(), 3);
        costs(x, LONGER, 0);
    }

    private static void tillNoneIsLeft() {
        says("the next ones come into it one by one, till it has LEAST or none is left");
        // b c, then a, a, a: one fewer than LEAST 6 in all; as many; one more.
        String[] rows = {"bcaaa", "bcaaaa", "bcaaaaa"};
        int[] lengths = {5, 6, 6};
        for (int i = 0; i < rows.length; i++) {
            RunSorter x = Checks.laid(rows[i]);
            x.rule(2, 6);
            x.step(1);
            due("waiting() of " + rows[i], x.waiting(), lengths[i]);
            due("count(6) of " + rows[i], x.count(6), lengths[i]);
            costs(x, LONGER, 1);
        }
    }

    private static void insertedByHalving() {
        says("as long as low is less than high, TEST if it is LESS than that at the middle");
        // b c d, a: the middle 1 (c), then 0 (b): 2 TESTS; it stands ahead of all three: 4 MOVES.
        RunSorter x = Checks.laid("bcda");
        x.step(1);
        Checks.tagsAre(x, 3, 0, 1, 2);
        costs(x, TESTS, 3 + 2);
        costs(x, MOVES, 3 + 1);
        // b b d, b: behind those that are alike: 1 (b), 2 (d): 2 TESTS, 1 and 1 MOVES.
        x = Checks.laid("bbdb");
        x.step(1);
        Checks.tagsAre(x, 0, 1, 3, 2);
        costs(x, TESTS, 3 + 2);
        costs(x, MOVES, 1 + 1);
        // b d, then a (1, 0: ahead of both: 3 MOVES), then c (1 (b), 2 (d): ahead of d: 2 MOVES).
        x = Checks.laid("bdac");
        x.step(1);
        Checks.tagsAre(x, 2, 0, 3, 1);
        costs(x, TESTS, 2 + 2 + 2);
        costs(x, MOVES, 3 + 2);
    }

    private static void staysWhereItWas() {
        says("how many stand behind it then, and 1; none, if it stays where it was");
        // c b a turned round (2 MOVES), then c: 1 (b), 2 (c): it stays.
        RunSorter x = Checks.laid("cbac");
        x.step(1);
        Checks.tagsAre(x, 2, 1, 0, 3);
        costs(x, TESTS, 3 + 2);
        costs(x, MOVES, 2);
        // Then b: ahead of one: 1 (b), 2 (c): 2 MOVES.
        x = Checks.laid("cbab");
        x.step(1);
        Checks.tagsAre(x, 2, 1, 3, 0);
        costs(x, TESTS, 3 + 2);
        costs(x, MOVES, 2 + 2);
    }

    // ---- which RUNS are MERGED when

    private static void powerOnALine() {
        says("the least k (1 or more) for which (2 a and p) times 2 to the k by 2 N, cut, is not");
        // 4 4 4 of 12. 4 and 12 of 24: 8 / 24 is 0, 24 / 24 is 1: just reached.
        RunSorter x = Checks.laidRuns(BY_POWERS, 4, 4, 4);
        x.step(3);
        due("run(0, 2)", x.run(0, 2), 1);
        // 12 and 20 of 24: 24 / 24 and 40 / 24 are 1; 48 / 24 is 2, 80 / 24 is 3.
        x.step(2);
        due("run(1, 2)", x.run(1, 2), 2);
        due("run(0, 2)", x.run(0, 2), 1);
        // 2 and 1 of 3: 2 and 5 of 6: 4 / 6 is 0, 10 / 6 is 1.
        x = Checks.laidAsItLies("aba");
        x.step(3);
        due("run(0, 2)", x.run(0, 2), 1);
        // 10 and 2 of 24: 10 and 22 of 48: 20 / 48 and 44 / 48 are 0: one short of the line.
        x = Checks.laidRuns(BY_POWERS, 10, 2, 12);
        x.step(3);
        due("run(0, 2)", x.run(0, 2), 2);
        // 10 and 4 of 24: 10 and 24 of 48: 20 / 48 is 0, 48 / 48 is 1.
        x = Checks.laidRuns(BY_POWERS, 10, 4, 10);
        x.step(3);
        due("run(0, 2)", x.run(0, 2), 1);
    }

    private static void powerAtMost() {
        says("POWER of the border of two RUNS side by side, the one from place a on, of p RECORDS");
        RunSorter x = Checks.laidAsItLies("ab".repeat(48));
        x.step(4);
        // 2 and 6 of 192: 64 / 192 is 0, 192 / 192 is 1, for k = 5.
        due("run(0, 2)", x.run(0, 2), 5);
        x.step(2);
        // 6 and 10 of 192: 192 / 192 and 320 / 192 are 1 for k = 5; 384 / 192 is 2, 640 / 192 is 3.
        due("run(1, 2)", x.run(1, 2), 6);
    }

    private static void waitingByPowers() {
        says("by POLICY 0, if the STACK has two or more, and the POWER of the border of the top two is more");
        // 4 4 4 4 of 16: powers 2 and 1.
        RunSorter x = Checks.laidRuns(BY_POWERS, 4, 4, 4, 4);
        x.step(1);
        due("next() with an empty STACK", x.next(), PUSHED);
        x.step(2);
        due("next() with one on the STACK", x.next(), PUSHED);
        x.step(2);
        due("run(0, 2)", x.run(0, 2), 2);
        due("run(1, 2)", x.run(1, 2), 1);
        due("next() with two, 2 and 1", x.next(), MERGED);
        due("due()", x.due(), 0);
        x.step(1);
        due("next() with one on the STACK again", x.next(), PUSHED);
        due("waiting()", x.waiting(), 4);
        // 4 4 4 of 12: powers 1 and 2.
        x = Checks.laidRuns(BY_POWERS, 4, 4, 4);
        x.step(5);
        due("next() with two, 1 and 2", x.next(), PUSHED);
        says("a RUN is WAITING");
        // The last alone is WAITING, with two on the STACK: it is PUSHED, ahead of the MERGES at the end.
        for (int policy = BY_POWERS; policy <= BY_BALANCES; policy++) {
            x = Checks.laidRuns(policy, 7, 3, 1);
            x.step(5);
            due("waiting()", x.waiting(), 1);
            due("run(-1, 0)", x.run(-1, 0), 2);
            due("next() by POLICY " + policy, x.next(), PUSHED);
            due("due() by POLICY " + policy, x.due(), NONE);
        }
        // By POLICY 1 and 2 a RUN that is WAITING is PUSHED, whatever the powers are.
        for (int policy = BY_LIKE_LENGTHS; policy <= BY_BALANCES; policy++) {
            x = Checks.laidRuns(policy, 11, 5, 8, 8);
            x.step(5);
            due("run(-1, 0)", x.run(-1, 0), 2);
            due("run(0, 2)", x.run(0, 2), 2);
            due("run(1, 2)", x.run(1, 2), 1);
            due("next() by POLICY " + policy, x.next(), PUSHED);
        }
    }

    private static void dueAheadOfFound() {
        says("a MERGE is DUE by POLICY 1 or 2.");
        for (int policy = BY_POWERS; policy <= BY_BALANCES; policy++) {
            RunSorter x = Checks.laidRuns(policy, 4, 4, 4);
            x.step(4);
            due("next() by POLICY " + policy, x.next(), policy == BY_POWERS ? FOUND : MERGED);
            due("due() by POLICY " + policy, x.due(), policy == BY_POWERS ? NONE : 0);
        }
    }

    private static void mergedAtTheEnd() {
        says("the STACK has two or more: the top two are MERGED");
        // 4 4 4 of 12: powers 1 and 2: three on the STACK when no RECORDS are left.
        RunSorter x = Checks.laidRuns(BY_POWERS, 4, 4, 4);
        x.step(6);
        due("run(-1, 0)", x.run(-1, 0), 3);
        due("due()", x.due(), 1);
        x.step(1);
        due("run(1, 1)", x.run(1, 1), 8);
        due("due()", x.due(), 0);
        // By POLICY 0 the top two also if the third has fewer than the top: 58 14 2 22, powers 1 2 3.
        x = Checks.laidRuns(BY_POWERS, 58, 14, 2, 22);
        x.step(8);
        due("run(-1, 0)", x.run(-1, 0), 4);
        due("run(0, 2)", x.run(0, 2), 1);
        due("run(1, 2)", x.run(1, 2), 2);
        due("run(2, 2)", x.run(2, 2), 3);
        due("due()", x.due(), 2);
        // Not DUE by their lengths, but no RECORDS are left.
        x = Checks.laidRuns(BY_LIKE_LENGTHS, 20, 7, 2);
        x.step(6);
        due("run(-1, 0)", x.run(-1, 0), 3);
        due("due() by POLICY 1", x.due(), 1);
        x = Checks.laidRuns(BY_BALANCES, 20, 7, 2);
        x.step(6);
        due("run(-1, 0)", x.run(-1, 0), 3);
        due("due() by POLICY 2", x.due(), 1);
        x.step(1);
        due("due() by POLICY 2", x.due(), 0);
    }

    private static void nothingIsLeft() {
        says("nothing: all is DONE (no STEP).");
        RunSorter x = Checks.laidRuns(BY_POWERS, 4, 4);
        x.step(5);
        due("next()", x.next(), DONE);
        due("step(1)", x.step(1), 0);
        costs(x, STEPS, 5);
        costs(x, MERGES, 1);
    }

    /** RUNS of these lengths are PUSHED; a RUN of 2 is left, so that what is DUE is so by lengths alone. */
    private static RunSorter withOneLeft(int policy, int... lengths) {
        int[] more = new int[lengths.length + 1];
        System.arraycopy(lengths, 0, more, 0, lengths.length);
        more[lengths.length] = 2;
        RunSorter x = Checks.laidRuns(policy, more);
        x.step(2 * lengths.length);
        due("run(-1, 0)", x.run(-1, 0), lengths.length);
        return x;
    }

    private static void dueIs(RunSorter x, int want) {
        due("due()", x.due(), want);
        due("next()", x.next(), want == NONE ? FOUND : MERGED);
    }

    private static void dueByLikeLengths() {
        says("POLICY 1: z is no more than twice w: the top two.");
        dueIs(withOneLeft(BY_LIKE_LENGTHS, 4), NONE);
        dueIs(withOneLeft(BY_LIKE_LENGTHS, 3, 2), 0);
        dueIs(withOneLeft(BY_LIKE_LENGTHS, 4, 2), 0);
        dueIs(withOneLeft(BY_LIKE_LENGTHS, 5, 2), NONE);
        dueIs(withOneLeft(BY_LIKE_LENGTHS, 2, 20), 0);
        dueIs(withOneLeft(BY_LIKE_LENGTHS, 20, 6, 3), 1);
        dueIs(withOneLeft(BY_LIKE_LENGTHS, 20, 7, 3), NONE);
        dueIs(withOneLeft(BY_LIKE_LENGTHS, 20, 9, 26), 1);
    }

    private static void dueByBalancesOfTwo() {
        says("else, if z is no more than w: z and w");
        dueIs(withOneLeft(BY_BALANCES, 4), NONE);
        dueIs(withOneLeft(BY_BALANCES, 3, 4), 0);
        dueIs(withOneLeft(BY_BALANCES, 4, 4), 0);
        dueIs(withOneLeft(BY_BALANCES, 5, 4), NONE);
        // With three, the third too long to count.
        dueIs(withOneLeft(BY_BALANCES, 26, 6, 6), 1);
        dueIs(withOneLeft(BY_BALANCES, 26, 6, 7), 1);
        dueIs(withOneLeft(BY_BALANCES, 26, 7, 6), NONE);
    }

    private static void dueByBalancesOfThree() {
        says("POLICY 2: if y is no more than z and w together (there are three)");
        dueIs(withOneLeft(BY_BALANCES, 5, 4, 2), 1);
        dueIs(withOneLeft(BY_BALANCES, 6, 4, 2), 1);
        dueIs(withOneLeft(BY_BALANCES, 7, 4, 2), NONE);
        says("y and z, if y is less than w, else z and w");
        dueIs(withOneLeft(BY_BALANCES, 5, 4, 4), 1);
        dueIs(withOneLeft(BY_BALANCES, 5, 4, 5), 1);
        dueIs(withOneLeft(BY_BALANCES, 5, 4, 6), 0);
    }

    private static void dueByBalancesOfFour() {
        says("or x no more than y and z together (there are four)");
        // 5 4 6 on top: 5 and 4 are MERGED; then 16 is more than 9 and 6, and x stands against 16 and 9.
        int[] thirds = {24, 25, 26};
        int[] dues = {2, 2, NONE};
        for (int i = 0; i < thirds.length; i++) {
            RunSorter x = withOneLeft(BY_BALANCES, thirds[i], 16, 5, 4, 6);
            dueIs(x, 2);
            x.step(1);
            due("run(2, 0)", x.run(2, 0), thirds[i] + 16);
            due("run(2, 1)", x.run(2, 1), 9);
            due("run(3, 0)", x.run(3, 0), thirds[i] + 16 + 9);
            due("run(3, 1)", x.run(3, 1), 6);
            dueIs(x, dues[i]);
        }
        // Three alone on the STACK: none stands against y and z.
        dueIs(withOneLeft(BY_BALANCES, 16, 9, 6), NONE);
    }

    // ---- a SEEK

    private static void seekIs(RunSorter x, int many, int key, int passing, int tests) {
        due("seek(0, " + many + ", " + key + ", 0)", x.seek(0, many, key, 0), passing);
        due("seek(0, " + many + ", " + key + ", 1)", x.seek(0, many, key, 1), tests);
    }

    private static void seekAmongMany() {
        says("those with 0, 2, 6, 14, .. of them ahead (each time twice as many and 2) are tried");
        // Of 96, so many PASS; then the TESTS: those tried on the way, and the halvings.
        int[][] passingAndTests = {{0, 1}, {1, 2 + 1}, {2, 2 + 1}, {3, 3 + 2}, {6, 3 + 2}, {7, 4 + 3},
            {14, 4 + 3}, {15, 5 + 4}, {30, 5 + 4}, {31, 6 + 5}, {62, 6 + 5}, {63, 6 + 6}, {95, 6 + 5}, {96, 6 + 5}};
        for (int[] row : passingAndTests) {
            RunSorter x = Checks.laid("a".repeat(row[0]) + "b".repeat(96 - row[0]));
            seekIs(x, 96, 1, row[0], row[1]);
        }
    }

    private static void seekAmongAll() {
        says("how many there are in all, if each that was tried did");
        RunSorter x = Checks.laid("m".repeat(96));
        int[][] manyAndTests = {{0, 0}, {1, 1}, {2, 1 + 1}, {3, 2}, {4, 2 + 1}, {5, 2 + 1}, {6, 2 + 2}, {7, 3},
            {14, 3 + 3}, {15, 4}, {30, 4 + 4}, {31, 5}, {62, 5 + 5}, {63, 6}, {64, 6 + 1}, {96, 6 + 5}};
        for (int[] row : manyAndTests) {
            seekIs(x, row[0], 13, row[0], row[1]);
            seekIs(x, row[0], 12, 0, row[0] == 0 ? 0 : 1);
            // Alike is not LESS.
            due("seek of those alike", x.seek(0, row[0], 12, 0), 0);
        }
    }

    // ---- a MERGE

    private static void allOfAStay() {
        says("those stay. If any are left (A now)");
        // b a turned round, a and b come into it: a a b b; then c d e f. SEEK in A: 0, 2, then 3.
        RunSorter x = Checks.laid("baabcdef");
        x.step(4);
        int tests = x.cost(TESTS);
        int moves = x.cost(MOVES);
        x.step(1);
        costs(x, TESTS, tests + 3);
        costs(x, MOVES, moves);
        costs(x, MERGES, 1);
        costs(x, TOGETHER, 8);
        costs(x, ROOM, 0);
        // The last of A alone is left: a a b c, then b c d e: 0, 2 (b), 3 (c): 3 stay; in B: 0 (b), 2 (d),
        // 1 (c): 1. A has no more than B.
        x = Checks.laid("caabbcde");
        x.step(4);
        tests = x.cost(TESTS);
        moves = x.cost(MOVES);
        x.step(1);
        Checks.keysAre(x, "aabbccde");
        // SINGLY b, 1 TEST; a MOVE into the ROOM, one for b, one out of the ROOM.
        costs(x, TESTS, tests + 3 + 3 + 1);
        costs(x, MOVES, moves + 3);
        costs(x, ROOM, 1);
    }

    private static void someStay() {
        says("those are B now, the others stay");
        // A: a a b stay, e f i; B: c d g, z z z stay. Finding 6 and 5 TESTS; the SEEKS 4 and 4.
        // FORWARD: c d e f g SINGLY, i out of the ROOM.
        RunSorter x = sorted("aabeficdgzzz", 3);
        Checks.keysAre(x, "aabcdefgizzz");
        mergeCosts(x, 6 + 5 + 4 + 4 + 5, 3 + 5 + 1, 3, 0, 3);
        costs(x, TOGETHER, 12);
    }

    private static void forwardIfNoMore() {
        says("A MERGE goes FORWARD if A has no more RECORDS than B");
        // d e i and a b f: as many. SEEKS 1 and 2; a b d e f SINGLY, i out of the ROOM (BACK took 4 TESTS).
        mergeCosts(sorted("deiabf", 3), 3 + 2 + 1 + 2 + 5, 3 + 5 + 1, 3, 0, 3);
        // One fewer: a b d e f g SINGLY.
        mergeCosts(sorted("deiabfg", 3), 3 + 3 + 1 + 3 + 6, 3 + 6 + 1, 3, 0, 3);
        says("else BACK: B goes into the ROOM");
        // One more: BACK: i h f e d SINGLY, b a out of the ROOM.
        mergeCosts(sorted("dehiabf", 3), 4 + 2 + 1 + 2 + 5, 3 + 5 + 2, 3, 0, 3);
    }

    private static void alikeStandByTags() {
        says("those of which none is LESS than the other stand by TAGS");
        // FORWARD: b c d and a b c d: the first of A is taken if the first of B is alike.
        RunSorter x = sorted("bcdabcd", 9);
        Checks.tagsAre(x, 3, 0, 4, 1, 5, 2, 6);
        // BACK: b stays, c d e e and b c d: the last of B is taken if the last of A is alike.
        for (int leap = 1; leap <= 9; leap++) {
            x = sorted("bcdeebcd", leap);
            costs(x, ROOM, 3);
            Checks.tagsAre(x, 0, 5, 1, 6, 2, 7, 3, 4);
        }
        // BACK and LEAPING, with many that are alike: c d d d d e e and c c d d d.
        for (int leap = 1; leap <= 9; leap++) {
            x = sorted("cddddeeccddd", leap);
            Checks.tagsAre(x, 0, 7, 8, 1, 2, 3, 4, 9, 10, 11, 5, 6);
        }
        // All alike, as many as there can be, by every POLICY.
        for (int policy = 0; policy < 3; policy++) {
            x = Checks.laid("bfhm".repeat(24));
            x.rule(0, 3);
            x.rule(1, policy);
            x.step(400);
            for (int i = 0; i < 96; i++) {
                due("at(" + i + ", 1)", x.at(i, 1), i);
            }
        }
    }

    private static void leapNowInARow() {
        says("When LEAP NOW in a row were taken of one side");
        // p z and a b q: two of B in a row: a b p q SINGLY.
        mergeCosts(sorted("pzabq", 3), 2 + 2 + 1 + 2 + 4, 2 + 4 + 1, 2, 0, 3);
        // p z and a b c q: three: a b c, then a round: SEEK in A tells 1 (2 TESTS); q; it ends.
        mergeCosts(sorted("pzabcq", 3), 2 + 3 + 1 + 3 + 3 + 2, 2 + 5 + 1, 2, 1, 3);
        // c f z and a b d e g: two, one, two, one, one.
        mergeCosts(sorted("cfzabdeg", 3), 3 + 4 + 1 + 3 + 7, 3 + 7 + 1, 3, 0, 3);
        // b c d z and a e f g: one of B, three of A; a round: 0 (1 TEST), e, then 2 (2 TESTS): it ends.
        mergeCosts(sorted("bcdzaefg", 3), 4 + 3 + 1 + 3 + 4 + 1 + 2, 4 + 7 + 1, 4, 1, 3);
        // b c y z and a e f g: one of B, two of A, three of B: B has none left.
        mergeCosts(sorted("bcyzaefg", 3), 4 + 3 + 1 + 3 + 6, 4 + 6 + 2, 4, 0, 3);
    }

    private static void leapEndsWithTheMerge() {
        says("As soon as A or B has none left, the MERGE ends");
        // x y z and a b c: B has none left when three were taken in a row: no round.
        mergeCosts(sorted("xyzabc", 3), 3 + 2 + 1 + 2 + 3, 3 + 3 + 3, 3, 0, 3);
        // By LEAP 2 a round begins: SEEK in A 1 TEST; c: B has none left.
        mergeCosts(sorted("xyzabc", 2), 3 + 2 + 1 + 2 + 2 + 1, 3 + 3 + 3, 3, 1, 2);
        // BACK, w x y z and a b c: A has none left when four were taken: by LEAP 4 no round.
        mergeCosts(sorted("wxyzabc", 4), 4 + 2 + 1 + 2 + 4, 3 + 4 + 3, 3, 0, 4);
        mergeCosts(sorted("wxyzabc", 3), 4 + 2 + 1 + 2 + 3 + 1, 3 + 4 + 3, 3, 1, 3);
    }

    private static void inARowSinceItBegan() {
        says("since the MERGE began or went on SINGLY");
        // y z and w x: two of B in a row, it ends. w x y z and v w x y: v of B, then turn by turn.
        RunSorter x = Checks.laidAsItLies("yzwxvwxy");
        x.rule(1, 1);
        x.step(400);
        costs(x, MERGES, 2);
        mergeCosts(x, 2 + 2 + 5 + 3 + 11, 6 + 12, 4, 0, 3);
    }

    private static void inARowSinceSingly() {
        says("since the MERGE began or went on SINGLY");
        // h i z and a b k by LEAP 1: a; a round: 0, b, 0, h: LEAP NOW 2; SINGLY i, then k: no second round.
        // Finding 3 and 2, SEEKS 1 and 2; a 1; the round 1 and 1; SINGLY 2.
        mergeCosts(sorted("hizabk", 1), 3 + 2 + 1 + 2 + 1 + 2 + 2, 3 + 5 + 1, 3, 1, 2);
    }

    private static void leapNowGoesOn() {
        says("LEAP NOW is LEAP at START");
        // c h z and a b e k by LEAP 2: LEAP NOW 3 behind it. Then a b c e h stay, k z and i m n o: i, k,
        // then m n o SINGLY: three in a row, but B has none left. By LEAP NOW 2 a round had begun.
        RunSorter x = Checks.laidAsItLies("chzabekimno");
        x.rule(1, 1);
        x.rule(3, 2);
        x.step(400);
        costs(x, MERGES, 2);
        costs(x, ROUNDS, 1);
        costs(x, LEAP_NOW, 3);
    }

    private static void leapNowAtStart() {
        says("LEAP (1 to 9; 3 at first): LEAP NOW is LEAP at START.");
        RunSorter x = sorted("chzabek", 2);
        costs(x, LEAP_NOW, 3);
        x.start();
        costs(x, LEAP_NOW, 2);
        x.step(400);
        costs(x, LEAP_NOW, 3);
        x.rule(3, 1);
        costs(x, LEAP_NOW, 1);
        x.rule(3, 9);
        costs(x, LEAP_NOW, 9);
    }

    private static void forwardFewerThanLeapNow() {
        says("if both SEEKS told fewer than LEAP NOW, that is 1 more (9 at most), and it goes on SINGLY; else it is 1 less");
        // c d h z and a b e k by LEAP 2: a b; a round: 2 (3 TESTS), e, 0 (1 TEST), h: LEAP NOW 1; another
        // round: 0 (1 TEST), k: it ends.
        mergeCosts(sorted("cdhzabek", 2), 4 + 3 + 1 + 3 + 2 + 4 + 1, 4 + 8, 4, 2, 1);
        // c h z: the round tells 1 (3 TESTS) and 0: LEAP NOW 3; k SINGLY.
        mergeCosts(sorted("chzabek", 2), 3 + 3 + 1 + 3 + 2 + 4 + 1, 3 + 7, 3, 1, 3);
        // h z and a b e f g k: the round tells 0 (1 TEST), then 2 (3 TESTS): LEAP NOW 1; another round: k.
        mergeCosts(sorted("hzabefgk", 2), 2 + 5 + 1 + 4 + 2 + 4 + 1, 2 + 8, 2, 2, 1);
        // h z and a b e f k: the round tells 0, then 1 (2 TESTS): LEAP NOW 3; k SINGLY.
        mergeCosts(sorted("hzabefk", 2), 2 + 4 + 1 + 3 + 2 + 3 + 1, 2 + 7, 2, 1, 3);
    }

    private static void leapNowOneLess() {
        says("else it is 1 less");
        // d e f h z and a b c g k by LEAP 3: a b c; a round: 3 (4 TESTS), g, 0 (1 TEST), h: LEAP NOW 2;
        // another: 0 (1 TEST), k.
        mergeCosts(sorted("defhzabcgk", 3), 5 + 4 + 1 + 3 + 3 + 5 + 1, 5 + 10, 5, 2, 2);
    }

    private static void backFewerThanLeapNow() {
        says("BACK: SEEK from behind in A, by: the last of B is LESS than it");
        // c d w x y z and a e by LEAP 2: z y; a round: 2 (3 TESTS), e, 0 (1 TEST), d: LEAP NOW 1; another
        // round: 1 (1 TEST): A has none left.
        mergeCosts(sorted("cdwxyzae", 2), 6 + 1 + 1 + 2 + 2 + 4 + 1, 2 + 8, 2, 2, 1);
        // c d x y z: the round tells 1 (3 TESTS) and 0: LEAP NOW 3; c SINGLY.
        mergeCosts(sorted("cdxyzae", 2), 5 + 1 + 1 + 2 + 2 + 4 + 1, 2 + 7, 2, 1, 3);
        says("then SEEK from behind in B, by: it is not LESS than the last of A");
        // b c d y z and a e f g: z y; a round: 0 (1 TEST), g, 2 (3 TESTS), d: LEAP NOW 1; another: 2 (2 TESTS).
        mergeCosts(sorted("bcdyzaefg", 2), 5 + 3 + 1 + 3 + 2 + 4 + 2, 4 + 9, 4, 2, 1);
        // b c d y z and a e f: a round: 0, f, 1 (2 TESTS), d: LEAP NOW 3; c b SINGLY.
        mergeCosts(sorted("bcdyzaef", 2), 5 + 2 + 1 + 2 + 2 + 3 + 2, 3 + 8, 3, 1, 3);
    }

    private static void leapNowAtMost() {
        says("that is 1 more (9 at most)");
        // r z and a to i, j, s by LEAP 9: nine SINGLY; a round: 0, j, 0, r: 9 it stays; s SINGLY.
        // Finding 2 and 10; SEEK in A 1, in B (11, all PASS): 0, 2, 6, then 9, 10.
        mergeCosts(sorted("rzabcdefghijs", 9), 2 + 10 + 1 + 5 + 9 + 2 + 1, 2 + 13, 2, 1, 9);
        // By LEAP 8 it is 9 then: a to h SINGLY; a round: 0, i, 1 (j; 2 TESTS), r; s SINGLY.
        mergeCosts(sorted("rzabcdefghijs", 8), 2 + 10 + 1 + 5 + 8 + 3 + 1, 2 + 13, 2, 1, 9);
    }

    private static void leapNowAtLeast() {
        says("else it is 1 less (1 at least)");
        // c h z and a e k by LEAP 1: a; a round: 1 (3 TESTS), e, 0, h: 1 it stays; another: 0, k: it ends.
        mergeCosts(sorted("chzaek", 1), 3 + 2 + 1 + 2 + 1 + 4 + 1, 3 + 6, 3, 2, 1);
        // h z and a b k by LEAP 1: a; a round: 0, b, 0, h: both fewer than 1: LEAP NOW 2; k SINGLY.
        mergeCosts(sorted("hzabk", 1), 2 + 2 + 1 + 2 + 1 + 2 + 1, 2 + 5, 2, 1, 2);
    }

    private static void roundThatEnds() {
        says("Behind each such round (that did not end the MERGE)");
        // FORWARD, ended by the first of B: 'p z a b c q' tells 1 and no more; LEAP NOW stays 3.
        costs(sorted("pzabcq", 3), LEAP_NOW, 3);
        // FORWARD, ended by the SEEK in B: b c d z and a e f g.
        costs(sorted("bcdzaefg", 3), LEAP_NOW, 3);
        // BACK, ended by the SEEK in A: z y x, then w: it tells 1.
        costs(sorted("wxyzabc", 3), LEAP_NOW, 3);
        // BACK, ended by the last of A: d x y z and a e: z y x; a round: 0, e, 0, d; a out of the ROOM.
        mergeCosts(sorted("dxyzae", 3), 4 + 1 + 1 + 2 + 3 + 2, 2 + 5 + 1, 2, 1, 3);
        // With one more in A it goes on: LEAP NOW 4, c SINGLY.
        mergeCosts(sorted("cdxyzae", 3), 5 + 1 + 1 + 2 + 3 + 2 + 1, 2 + 6 + 1, 2, 1, 4);
    }

    private static void mostInTheRoom() {
        says("the most RECORDS in the ROOM (7)");
        RunSorter x = Checks.laid("b".repeat(48) + "a".repeat(48));
        x.step(4);
        costs(x, ROOM, 0);
        x.step(1);
        costs(x, ROOM, 48);
        // 47 and 49, 49 and 47: the fewer of the two.
        x = sorted("b".repeat(47) + "a".repeat(49), 3);
        costs(x, ROOM, 47);
        x = sorted("b".repeat(49) + "a".repeat(47), 3);
        costs(x, ROOM, 47);
        // c d and a b: 2. Then a stays, b c d and a: BACK, 1: it stays 2.
        x = Checks.laidAsItLies("cdabaz");
        x.rule(1, 1);
        x.step(5);
        costs(x, ROOM, 2);
        x.step(400);
        costs(x, MERGES, 2);
        costs(x, ROOM, 2);
    }

    private static void mostOnTheStack() {
        says("the most RUNS on the STACK (8)");
        RunSorter x = Checks.laidRuns(BY_POWERS, 4, 4, 4, 4);
        int[] most = {0, 0, 1, 1, 2, 2, 2, 2, 2, 3, 3, 3};
        for (int i = 0; i < most.length; i++) {
            due("cost(8) behind " + i + " STEPS", x.cost(STACK), most[i]);
            x.step(1);
        }
        x.start();
        costs(x, STACK, 0);
    }
}
