import java.util.ArrayList;
import java.util.List;

/**
 * Each sentence of the document that bounds a call: the last number that is allowed and the first
 * that is not, on both sides; which refusal is told first; that a refused call changes nothing.
 */
public final class CallBoundsTest {
    private static final int BAD = Checks.BAD, NO = Checks.NO, FULL = Checks.FULL, NONE = Checks.NONE;
    private static final int MIN = Checks.MIN, MAX = Checks.MAX;
    private static final String FIRST = "hgfedcbaabcdefzzyyxxaaaaabbbbbcccqponmlkj";

    public static void main(String[] args) {
        constants();
        callsOfOneObject();
        newObject();
        textIsFull();
        letterOfText();
        wipedText();
        faultAmongLetters();
        faultOfThe97th();
        faultOfNone();
        laidOfOneAnd96();
        notLaid();
        laidAnew();
        ruleBounds();
        ruleIsSo();
        ruleStarts();
        putBounds();
        putHasThat();
        putStarts();
        startTells();
        stepBounds();
        nextAtItsEnds();
        atBounds();
        placeBounds();
        placesOfAShorterRow();
        runBounds();
        runPowerOfNone();
        waitingOfNone();
        dueOfNone();
        costBounds();
        wouldBounds();
        wouldTillDone();
        descentsOfFew();
        inversionsOfFew();
        seekPlaces();
        seekKeyAndWhat();
        seekNotSorted();
        lessBounds();
        lessByOrders();
        countBounds();
        countWhetherDone();
        refusalsInOrder();
        refusedChangesNothing();
        refusedByStateChangesNothing();
        lookingChangesNothing();
        writingLeavesTheRow();
        Checks.end();
    }

    private static void says(String words) {
        Checks.says(words);
    }

    private static void due(String call, int got, int want) {
        Checks.due(call, got, want);
    }

    // ---- the face, and a new object

    private static void constants() {
        says("BAD = -1, NO = -2, FULL = -3, NONE = -4");
        due("BAD", RunSorter.BAD, -1);
        due("NO", RunSorter.NO, -2);
        due("FULL", RunSorter.FULL, -3);
        due("NONE", RunSorter.NONE, -4);
    }

    private static void callsOfOneObject() {
        says("An object is used for at most 512 calls after it has been made");
        RunSorter x = new RunSorter();
        for (int call = 1; call <= 510; call++) {
            due("start() or step(), call " + call, call % 2 == 1 ? x.step(400) : x.start(), 14);
        }
        due("step(400), the 511th call", x.step(400), 14);
        due("cost(0), the 512th call", x.cost(0), 129);
    }

    private static void newObject() {
        says("`RunSorter()`: As told; THE TEXT is empty.");
        RunSorter x = new RunSorter();
        Checks.keysAre(x, FIRST);
        Checks.isAtStart(x);
        int[] counts = {41, 0, 0, 4, 3, 0, 0, 0};
        for (int what = 0; what < 8; what++) {
            due("count(" + what + ")", x.count(what), counts[what]);
        }
        due("wipe()", x.wipe(), 0);
    }

    // ---- told

    private static void textIsFull() {
        says("THE TEXT is letters (200 at most).");
        RunSorter x = new RunSorter();
        for (int i = 1; i <= 199; i++) {
            due("write('a')", x.write('a'), i);
        }
        due("write('a'), the 200th", x.write('a'), 200);
        due("write('a'), the 201st", x.write('a'), FULL);
        due("write(' ')", x.write(' '), FULL);
        due("write('~')", x.write('~'), FULL);
        due("count(5)", x.count(5), 200);
        due("wipe()", x.wipe(), 200);
        due("write('a')", x.write('a'), 1);
    }

    private static void letterOfText() {
        says("A letter (32 to 126, as in ASCII) comes behind THE TEXT: how long it is.");
        RunSorter x = new RunSorter();
        int[] bads = {31, 127, 0, -1, -32, -97, 128, 32 + 256, 97 + 65536, MIN, MAX};
        for (int bad : bads) {
            due("write(" + bad + ")", x.write(bad), BAD);
        }
        due("count(5)", x.count(5), 0);
        int[] allowed = {32, 126, 33, 125};
        for (int i = 0; i < allowed.length; i++) {
            due("write(" + allowed[i] + ")", x.write(allowed[i]), i + 1);
        }
    }

    private static void wipedText() {
        says("THE TEXT is empty: how long it was.");
        RunSorter x = Checks.laid("cab");
        x.write('Z');
        due("wipe()", x.wipe(), 4);
        due("wipe() of none", x.wipe(), 0);
        due("count(5)", x.count(5), 0);
        due("fault()", x.fault(), NONE);
        due("lay()", x.lay(), NO);
        Checks.keysAre(x, "cab");
    }

    private static void faultAmongLetters() {
        says("FAULT of THE TEXT: the place of its first letter that is no small one");
        RunSorter x = new RunSorter();
        Checks.write(x, "az");
        due("fault() of az", x.fault(), NONE);
        char[] noSmallOnes = {'a' - 1, 'z' + 1, 'A', 'Z', ' ', '~'};
        for (char c : noSmallOnes) {
            x.wipe();
            Checks.write(x, "" + c);
            due("fault() of " + c, x.fault(), 0);
            Checks.write(x, "a" + c);
            due("fault() of two " + c, x.fault(), 0);
            x.wipe();
            Checks.write(x, "az" + c);
            due("fault() of az" + c, x.fault(), 2);
        }
    }

    private static void faultOfThe97th() {
        says("or that is the 97th");
        RunSorter x = new RunSorter();
        Checks.write(x, "z".repeat(96));
        due("fault() of 96", x.fault(), NONE);
        x.write('z');
        due("fault() of 97", x.fault(), 96);
        x.write('z');
        due("fault() of 98", x.fault(), 96);
        Checks.write(x, "z".repeat(102));
        due("fault() of 200", x.fault(), 96);
        x.wipe();
        Checks.write(x, "z".repeat(95) + "Zz");
        due("fault() of 97, the 96th no small one", x.fault(), 95);
        x.wipe();
        Checks.write(x, "z".repeat(96) + "Zz");
        due("fault() of 98, the 97th no small one", x.fault(), 96);
        x.wipe();
        Checks.write(x, "z".repeat(97) + "Z");
        due("fault() of 98, the 98th no small one", x.fault(), 96);
    }

    private static void faultOfNone() {
        says("`int fault()`: FAULT. NONE.");
        RunSorter x = new RunSorter();
        due("fault() of an empty TEXT", x.fault(), NONE);
        x.write('A');
        due("fault()", x.fault(), 0);
        x.wipe();
        due("fault() of a wiped TEXT", x.fault(), NONE);
        x.write('a');
        due("fault() of a", x.fault(), NONE);
    }

    private static void laidOfOneAnd96() {
        says("A ROW: 1 to 96 RECORDS, each a KEY (a small letter) and a TAG (its place at first: 0, 1, ..).");
        RunSorter x = Checks.laid("z");
        Checks.keysAre(x, "z");
        Checks.tagsAre(x, 0);
        x = Checks.laid("a" + "m".repeat(94) + "z");
        due("count(0)", x.count(0), 96);
        due("at(0, 0)", x.at(0, 0), 0);
        due("at(95, 0)", x.at(95, 0), 25);
        for (int i = 0; i < 96; i++) {
            due("at(" + i + ", 1)", x.at(i, 1), i);
        }
    }

    private static void notLaid() {
        says("LAID is a TEXT without FAULT, with a letter at least, as the ROW (NO else");
        RunSorter x = new RunSorter();
        due("lay() of none", x.lay(), NO);
        x.write('a');
        due("lay() of one", x.lay(), 1);
        x.wipe();
        due("lay() of none", x.lay(), NO);
        Checks.write(x, "ab`");
        due("lay() with a FAULT at the end", x.lay(), NO);
        x.wipe();
        Checks.write(x, "{ab");
        due("lay() with a FAULT at the beginning", x.lay(), NO);
        Checks.keysAre(x, "a");
        x.wipe();
        Checks.write(x, "b".repeat(96));
        due("lay() of 96", x.lay(), 96);
        x.write('b');
        due("lay() of 97", x.lay(), NO);
        due("count(0)", x.count(0), 96);
    }

    private static void laidAnew() {
        says("LAID: how many RECORDS; START (ORDER, POLICY, LEAST, LEAP stay).");
        RunSorter x = Checks.laid("dcbabcd");
        int[] told = {3, 2, 9, 1};
        for (int what = 0; what < 4; what++) {
            x.rule(what, told[what]);
        }
        x.put(0, 25);
        x.step(400);
        due("lay()", x.lay(), 7);
        Checks.isAtStart(x);
        Checks.keysAre(x, "dcbabcd");
        for (int what = 0; what < 4; what++) {
            due("count(" + (what + 1) + ")", x.count(what + 1), told[what]);
        }
        due("count(5)", x.count(5), 7);
    }

    private static void ruleBounds() {
        says("ORDER (what = 0; 0 to 3), POLICY (1; 0 to 2), LEAST (2), LEAP (3)");
        int[] lowest = {0, 0, 2, 1};
        int[] highest = {3, 2, 9, 9};
        int[] first = {0, 0, 4, 3};
        for (int what = 0; what < 4; what++) {
            RunSorter x = new RunSorter();
            int[] bads = {lowest[what] - 1, highest[what] + 1, MIN, MAX, -lowest[what] - 1, highest[what] + 256};
            for (int bad : bads) {
                due("rule(" + what + ", " + bad + ")", x.rule(what, bad), BAD);
            }
            due("count()", x.count(what + 1), first[what]);
            due("the highest", x.rule(what, highest[what]), first[what]);
            due("count()", x.count(what + 1), highest[what]);
            due("the lowest", x.rule(what, lowest[what]), highest[what]);
            due("count()", x.count(what + 1), lowest[what]);
            due("one above the lowest", x.rule(what, lowest[what] + 1), lowest[what]);
        }
        RunSorter x = new RunSorter();
        int[] noRules = {-1, 4, MIN, MAX};
        for (int what : noRules) {
            for (int number = -1; number <= 10; number++) {
                due("rule(" + what + ", " + number + ")", x.rule(what, number), BAD);
            }
        }
    }

    private static void ruleIsSo() {
        says("BAD; NO: it is so.");
        int[] first = {0, 0, 4, 3};
        for (int what = 0; what < 4; what++) {
            RunSorter x = new RunSorter();
            due("rule(" + what + ") as at first", x.rule(what, first[what]), NO);
            due("rule(" + what + ", 2)", x.rule(what, 2), first[what]);
            due("rule(" + what + ", 2) again", x.rule(what, 2), NO);
            due("rule(" + what + ") back", x.rule(what, first[what]), 2);
            due("rule(" + what + ") back again", x.rule(what, first[what]), NO);
        }
    }

    private static void ruleStarts() {
        says("is told anew; START: what it was.");
        for (int what = 0; what < 4; what++) {
            RunSorter x = Checks.laid("dcbabcdba");
            x.step(3);
            due("rule(" + what + ", 2)", x.rule(what, 2), what < 2 ? 0 : what == 2 ? 4 : 3);
            Checks.isAtStart(x);
            Checks.keysAre(x, "dcbabcdba");
        }
    }

    private static void putBounds() {
        says("The RECORD that was LAID at a place has another KEY (0 a, .. 25 z); START: which it had.");
        RunSorter x = Checks.laid("mnop");
        int[] noPlaces = {-1, 4, MIN, MAX};
        for (int place : noPlaces) {
            due("put(" + place + ", 0)", x.put(place, 0), BAD);
        }
        int[] noKeys = {-1, 26, MIN, MAX, 'a'};
        for (int key : noKeys) {
            due("put(0, " + key + ")", x.put(0, key), BAD);
        }
        Checks.keysAre(x, "mnop");
        due("put(0, 0)", x.put(0, 0), 12);
        due("put(3, 25)", x.put(3, 25), 15);
        Checks.keysAre(x, "anoz");
        due("put(0, 25)", x.put(0, 25), 0);
        due("put(3, 0)", x.put(3, 0), 25);
        Checks.keysAre(x, "znoa");
        x = Checks.laid("a");
        due("put(1, 1) of one", x.put(1, 1), BAD);
        due("put(0, 1) of one", x.put(0, 1), 0);
        x = Checks.laid("a".repeat(96));
        due("put(96, 1) of 96", x.put(96, 1), BAD);
        due("put(95, 1) of 96", x.put(95, 1), 0);
    }

    private static void putHasThat() {
        says("BAD; NO: it has that.");
        RunSorter x = Checks.laid("ba");
        x.step(1);
        Checks.keysAre(x, "ab");
        // It is the RECORD that was LAID there that has it, not the one that stands there now.
        due("put(0, 1)", x.put(0, 1), NO);
        due("put(1, 0)", x.put(1, 0), NO);
        Checks.keysAre(x, "ab");
        due("put(0, 0)", x.put(0, 0), 1);
        due("put(0, 0) again", x.put(0, 0), NO);
        Checks.keysAre(x, "aa");
    }

    private static void putStarts() {
        says("has another KEY (0 a, .. 25 z); START");
        RunSorter x = Checks.laid("dcbabcdba");
        x.rule(3, 5);
        x.step(400);
        due("put(8, 9)", x.put(8, 9), 0);
        Checks.isAtStart(x);
        Checks.keysAre(x, "dcbabcdbj");
        x.step(400);
        x.start();
        Checks.keysAre(x, "dcbabcdbj");
    }

    private static void startTells() {
        says("START: how many STEPS were done.");
        RunSorter x = Checks.laidRuns(0, 4, 4);
        due("start() of none", x.start(), 0);
        x.step(1);
        due("start() of one", x.start(), 1);
        due("start() of none", x.start(), 0);
        x.step(400);
        x.step(400);
        due("start() of all", x.start(), 5);
        Checks.isAtStart(x);
        Checks.keysAre(x, "abcdabcd");
    }

    // ---- steps

    private static void stepBounds() {
        says("n (1 to 400) STEPS, fewer if all is DONE: how many.");
        RunSorter x = Checks.laidRuns(0, 4, 4);
        int[] bads = {0, 401, -1, MIN, MAX, -400};
        for (int bad : bads) {
            due("step(" + bad + ")", x.step(bad), BAD);
        }
        Checks.isAtStart(x);
        due("step(1)", x.step(1), 1);
        due("step(400)", x.step(400), 4);
        due("step(1) when DONE", x.step(1), 0);
        due("step(400) when DONE", x.step(400), 0);
        due("step(0) when DONE", x.step(0), BAD);
        due("step(401) when DONE", x.step(401), BAD);
        due("cost(11)", x.cost(11), 5);
        x.start();
        due("step(4), one fewer than all", x.step(4), 4);
        due("count(7)", x.count(7), 0);
        x.start();
        due("step(5), all", x.step(5), 5);
        due("count(7)", x.count(7), 1);
        x.start();
        due("step(6), one more than all", x.step(6), 5);
        // The most STEPS that a ROW takes: 48 RUNS of two, each FOUND and PUSHED, 47 MERGES.
        for (int policy = 0; policy < 3; policy++) {
            x = Checks.laidAsItLies("ab".repeat(48));
            x.rule(1, policy);
            due("step(400) of 48 RUNS", x.step(400), 48 + 48 + 47);
            due("count(7)", x.count(7), 1);
        }
    }

    private static void nextAtItsEnds() {
        says("1 a RUN is PUSHED, 2 it is FOUND, 3 RUNS are MERGED, 0 all is DONE.");
        RunSorter x = Checks.laid("z");
        int[] kindsOfOne = {2, 1, 0, 0};
        for (int kind : kindsOfOne) {
            due("next()", x.next(), kind);
            x.step(1);
        }
        x = Checks.laidAsItLies("aba");
        int[] kinds = {2, 1, 2, 1, 3, 0};
        for (int kind : kinds) {
            due("next()", x.next(), kind);
            x.step(1);
        }
    }

    private static void atBounds() {
        says("KEY (what = 0; 0 a, .. 25 z), TAG (1) of the RECORD at a place now. BAD.");
        RunSorter x = Checks.laid("za");
        x.step(1);
        int[] noPlaces = {-1, 2, MIN, MAX};
        for (int place : noPlaces) {
            due("at(" + place + ", 0)", x.at(place, 0), BAD);
            due("at(" + place + ", 1)", x.at(place, 1), BAD);
        }
        int[] noWhats = {-1, 2, MIN, MAX};
        for (int what : noWhats) {
            due("at(0, " + what + ")", x.at(0, what), BAD);
        }
        due("at(0, 0)", x.at(0, 0), 0);
        due("at(1, 0)", x.at(1, 0), 25);
        due("at(0, 1)", x.at(0, 1), 1);
        due("at(1, 1)", x.at(1, 1), 0);
        x = Checks.laid("a".repeat(95) + "z");
        due("at(95, 0) of 96", x.at(95, 0), 25);
        due("at(95, 1) of 96", x.at(95, 1), 95);
        due("at(96, 0) of 96", x.at(96, 0), BAD);
    }

    private static void placeBounds() {
        says("Where the RECORD of a TAG stands now. BAD.");
        RunSorter x = Checks.laid("cba");
        int[] noTags = {-1, 3, MIN, MAX};
        for (int tag : noTags) {
            due("place(" + tag + ")", x.place(tag), BAD);
        }
        due("place(0)", x.place(0), 0);
        due("place(2)", x.place(2), 2);
        x.step(1);
        due("place(0)", x.place(0), 2);
        due("place(2)", x.place(2), 0);
        x = Checks.laid("z".repeat(96));
        due("place(95) of 96", x.place(95), 95);
        due("place(96) of 96", x.place(96), BAD);
        x = Checks.laid("z");
        due("place(0) of one", x.place(0), 0);
        due("place(1) of one", x.place(1), BAD);
    }

    private static void placesOfAShorterRow() {
        says("places 0 to less than how many RECORDS there are");
        RunSorter x = new RunSorter();
        x.step(400);
        Checks.write(x, "cab");
        x.lay();
        due("at(2, 0)", x.at(2, 0), 1);
        due("at(3, 0)", x.at(3, 0), BAD);
        due("at(40, 1)", x.at(40, 1), BAD);
        due("place(2)", x.place(2), 2);
        due("place(3)", x.place(3), BAD);
        due("place(40)", x.place(40), BAD);
        due("put(3, 0)", x.put(3, 0), BAD);
        due("seek(3, 3, 0, 0)", x.seek(3, 3, 0, 0), 0);
        due("seek(3, 4, 0, 0)", x.seek(3, 4, 0, 0), BAD);
        due("put(2, 0)", x.put(2, 0), 1);
        due("descents()", x.descents(), 1);
        due("inversions()", x.inversions(), 2);
    }

    private static void runBounds() {
        says("how many RUNS there are (i = -1). BAD (i below -1); NONE: not so many.");
        RunSorter x = Checks.laidRuns(0, 4, 4);
        due("run(-1, 0) at START", x.run(-1, 0), 0);
        due("run(0, 0) at START", x.run(0, 0), NONE);
        x.step(1);
        due("run(-1, 0) with one WAITING", x.run(-1, 0), 0);
        due("run(0, 1) with one WAITING", x.run(0, 1), NONE);
        x.step(1);
        due("run(-1, 0) with one", x.run(-1, 0), 1);
        due("run(0, 0)", x.run(0, 0), 0);
        due("run(0, 1)", x.run(0, 1), 4);
        due("run(1, 0)", x.run(1, 0), NONE);
        x.step(2);
        for (int what = 0; what < 3; what++) {
            due("run(-1, " + what + ") with two", x.run(-1, what), 2);
            due("run(2, " + what + ")", x.run(2, what), NONE);
            due("run(MAX, " + what + ")", x.run(MAX, what), NONE);
            due("run(-2, " + what + ")", x.run(-2, what), BAD);
            due("run(MIN, " + what + ")", x.run(MIN, what), BAD);
        }
        due("run(1, 0)", x.run(1, 0), 4);
        due("run(1, 1)", x.run(1, 1), 4);
        int[] noWhats = {-1, 3, MIN, MAX};
        for (int what : noWhats) {
            due("run(0, " + what + ")", x.run(0, what), BAD);
        }
        x.step(1);
        due("run(-1, 0) when DONE", x.run(-1, 0), 1);
        due("run(0, 1) when DONE", x.run(0, 1), 8);
        due("run(1, 1) when DONE", x.run(1, 1), NONE);
    }

    private static void runPowerOfNone() {
        says("POWER of the border behind it (2; NONE: no RUN is behind it, PUSHED or WAITING)");
        RunSorter x = Checks.laidRuns(0, 4, 4);
        x.step(2);
        due("run(0, 2) with none behind it", x.run(0, 2), NONE);
        x.step(1);
        due("run(0, 2) with one WAITING", x.run(0, 2), 1);
        x.step(1);
        due("run(0, 2) with one PUSHED", x.run(0, 2), 1);
        due("run(1, 2) of the top", x.run(1, 2), NONE);
        x.step(1);
        due("run(0, 2) of the last", x.run(0, 2), NONE);
    }

    private static void waitingOfNone() {
        says("The length of the RUN that is WAITING. NONE.");
        RunSorter x = Checks.laid("z");
        due("waiting() at START", x.waiting(), NONE);
        x.step(1);
        due("waiting() of one", x.waiting(), 1);
        x.step(1);
        due("waiting() when PUSHED", x.waiting(), NONE);
        x = Checks.laid("z".repeat(96));
        x.step(1);
        due("waiting() of 96", x.waiting(), 96);
        x.start();
        due("waiting() at START", x.waiting(), NONE);
    }

    private static void dueOfNone() {
        says("how many RUNS of the STACK lie ahead of the first of the two. NONE: it is none.");
        RunSorter x = Checks.laidRuns(0, 4, 4, 4, 4);
        int[] dues = {NONE, NONE, NONE, NONE, NONE, 0, NONE, NONE, NONE, 1, 0, NONE};
        for (int i = 0; i < dues.length; i++) {
            due("due() behind " + i + " STEPS", x.due(), dues[i]);
            x.step(1);
        }
        x = Checks.laid("z");
        for (int i = 0; i < 4; i++) {
            due("due() of one alone", x.due(), NONE);
            x.step(1);
        }
    }

    private static void costBounds() {
        says("LEAP NOW (10), STEPS (11). BAD.");
        RunSorter x = Checks.laid("ba");
        x.step(400);
        int[] costs = {1, 2, 1, 1, 0, 0, 0, 0, 1, 0, 3, 2};
        for (int what = 0; what < 12; what++) {
            due("cost(" + what + ")", x.cost(what), costs[what]);
        }
        int[] bads = {-1, 12, MIN, MAX};
        for (int bad : bads) {
            due("cost(" + bad + ")", x.cost(bad), BAD);
        }
    }

    private static void wouldBounds() {
        says("What cost() (0 to 11) would tell");
        RunSorter x = Checks.laid("ba");
        int[] costs = {1, 2, 1, 1, 0, 0, 0, 0, 1, 0, 3, 2};
        for (int policy = 0; policy < 3; policy++) {
            for (int what = 0; what < 12; what++) {
                due("would(" + policy + ", " + what + ")", x.would(policy, what), costs[what]);
            }
            int[] bads = {-1, 12, MIN, MAX};
            for (int bad : bads) {
                due("would(" + policy + ", " + bad + ")", x.would(policy, bad), BAD);
            }
        }
        says("by a POLICY (0 to 2), all else as told. BAD.");
        int[] noPolicies = {-1, 3, MIN, MAX};
        for (int policy : noPolicies) {
            due("would(" + policy + ", 0)", x.would(policy, 0), BAD);
            due("would(" + policy + ", 11)", x.would(policy, 11), BAD);
        }
    }

    private static void wouldTillDone() {
        says("if the ROW as LAID were sorted till DONE");
        RunSorter x = Checks.laidRuns(0, 4, 4);
        int[] steps = {0, 1, 3, 400};
        for (int n : steps) {
            if (n > 0) {
                x.step(n);
            }
            due("would(0, 11)", x.would(0, 11), 5);
            due("would(1, 6)", x.would(1, 6), 8);
            due("would(2, 0)", x.would(2, 0), 18);
        }
        due("would(0, 0) is cost(0) when DONE", x.would(0, 0), x.cost(0));
        x = Checks.laidAsItLies("ab".repeat(48));
        for (int policy = 0; policy < 3; policy++) {
            due("would(" + policy + ", 11), the most STEPS", x.would(policy, 11), 48 + 48 + 47);
            due("would(" + policy + ", 5)", x.would(policy, 5), 47);
        }
        x = Checks.laid("z");
        due("would(2, 11) of one", x.would(2, 11), 2);
        due("would(2, 0) of one", x.would(2, 0), 0);
        x.rule(3, 9);
        due("would(1, 10) of LEAP 9", x.would(1, 10), 9);
    }

    // ---- looked at

    private static void descentsOfFew() {
        says("How many RECORDS the ROW now has that are LESS than the one ahead of them.");
        due("descents() of one", Checks.laid("z").descents(), 0);
        due("descents() of two alike", Checks.laid("zz").descents(), 0);
        due("descents() of two up", Checks.laid("yz").descents(), 0);
        due("descents() of two down", Checks.laid("zy").descents(), 1);
        due("descents() at the end", Checks.laid("abcb").descents(), 1);
        RunSorter x = Checks.laid("zy".repeat(48));
        due("descents() of 96", x.descents(), 48);
        x.step(400);
        due("descents() when DONE", x.descents(), 0);
        x.start();
        due("descents() at START", x.descents(), 48);
        x = Checks.laid("zyx");
        x.rule(0, 1);
        due("descents() of three down by ORDER 1", x.descents(), 0);
    }

    private static void inversionsOfFew() {
        says("How many pairs of places stand so now that the later one's RECORD is LESS than the earlier one's.");
        due("inversions() of one", Checks.laid("z").inversions(), 0);
        due("inversions() of two alike", Checks.laid("zz").inversions(), 0);
        due("inversions() of two up", Checks.laid("yz").inversions(), 0);
        due("inversions() of two down", Checks.laid("zy").inversions(), 1);
        due("inversions() of the first and the last", Checks.laid("bbba").inversions(), 3);
        RunSorter x = Checks.laid("b".repeat(48) + "a".repeat(48));
        due("inversions() of 96", x.inversions(), 48 * 48);
        x.step(400);
        due("inversions() when DONE", x.inversions(), 0);
        x = Checks.laid("zyx");
        x.rule(0, 1);
        due("inversions() of three down by ORDER 1", x.inversions(), 0);
    }

    private static void seekPlaces() {
        says("RECORDS from place i on ahead of place j (i no more than j, 0 to how many there are)");
        RunSorter x = Checks.laid("aabb");
        due("seek(0, 4, 1, 0)", x.seek(0, 4, 1, 0), 2);
        due("seek(0, 5, 1, 0)", x.seek(0, 5, 1, 0), BAD);
        due("seek(-1, 4, 1, 0)", x.seek(-1, 4, 1, 0), BAD);
        due("seek(-1, -1, 1, 0)", x.seek(-1, -1, 1, 0), BAD);
        due("seek(0, -1, 1, 0)", x.seek(0, -1, 1, 0), BAD);
        for (int i = 0; i <= 4; i++) {
            due("seek of none", x.seek(i, i, 1, 0), 0);
            due("seek of none", x.seek(i, i, 1, 1), 0);
            due("seek(" + (i + 1) + ", " + i + ", 1, 0)", x.seek(i + 1, i, 1, 0), BAD);
        }
        due("seek(5, 5, 1, 0)", x.seek(5, 5, 1, 0), BAD);
        due("seek(1, 2, 1, 0)", x.seek(1, 2, 1, 0), 1);
        due("seek(2, 3, 1, 0)", x.seek(2, 3, 1, 0), 0);
        due("seek(3, 4, 2, 0)", x.seek(3, 4, 2, 0), 1);
        due("seek(MIN, 4, 1, 0)", x.seek(MIN, 4, 1, 0), BAD);
        due("seek(0, MAX, 1, 0)", x.seek(0, MAX, 1, 0), BAD);
        due("seek(MIN, MAX, 1, 0)", x.seek(MIN, MAX, 1, 0), BAD);
        due("seek(MAX, MAX, 1, 0)", x.seek(MAX, MAX, 1, 0), BAD);
        due("seek(MIN, MIN, 1, 0)", x.seek(MIN, MIN, 1, 0), BAD);
        x = Checks.laid("a".repeat(96));
        due("seek(0, 96, 1, 0)", x.seek(0, 96, 1, 0), 96);
        due("seek(95, 96, 1, 0)", x.seek(95, 96, 1, 0), 1);
        due("seek(96, 96, 1, 0)", x.seek(96, 96, 1, 0), 0);
        due("seek(0, 97, 1, 0)", x.seek(0, 97, 1, 0), BAD);
    }

    private static void seekKeyAndWhat() {
        says("it is LESS than a RECORD of a KEY (0 to 25): how many PASS (what = 0), how many TESTS that takes (1");
        RunSorter x = Checks.laid("aayz");
        due("seek(0, 4, 0, 0)", x.seek(0, 4, 0, 0), 0);
        due("seek(0, 4, 1, 0)", x.seek(0, 4, 1, 0), 2);
        due("seek(0, 4, 25, 0)", x.seek(0, 4, 25, 0), 3);
        due("seek(0, 4, 0, 1)", x.seek(0, 4, 0, 1), 1);
        int[] noKeys = {-1, 26, MIN, MAX};
        for (int key : noKeys) {
            due("seek(0, 4, " + key + ", 0)", x.seek(0, 4, key, 0), BAD);
            due("seek(2, 2, " + key + ", 1)", x.seek(2, 2, key, 1), BAD);
        }
        int[] noWhats = {-1, 2, MIN, MAX};
        for (int what : noWhats) {
            due("seek(0, 4, 1, " + what + ")", x.seek(0, 4, 1, what), BAD);
            due("seek(2, 2, 1, " + what + ")", x.seek(2, 2, 1, what), BAD);
        }
        says("not counted by cost()");
        due("cost(0)", x.cost(0), 0);
        says("by: it is LESS than a RECORD of a KEY (0 to 25)");
        x = Checks.laid("zzya");
        x.rule(0, 1);
        due("seek(0, 4, 24, 0) by ORDER 1", x.seek(0, 4, 24, 0), 2);
        due("seek(0, 4, 0, 0) by ORDER 1", x.seek(0, 4, 0, 0), 3);
        due("seek(0, 4, 25, 0) by ORDER 1", x.seek(0, 4, 25, 0), 0);
    }

    private static void seekNotSorted() {
        says("NO: some RECORD of them is LESS than the one ahead of it.");
        RunSorter x = Checks.laid("baabcb");
        due("seek(0, 1, 1, 0)", x.seek(0, 1, 1, 0), 0);
        due("seek(0, 2, 1, 0), the second LESS than the first", x.seek(0, 2, 1, 0), NO);
        due("seek(0, 2, 1, 1)", x.seek(0, 2, 1, 1), NO);
        due("seek(1, 5, 1, 0), alike and up", x.seek(1, 5, 1, 0), 2);
        due("seek(1, 6, 1, 0), the last LESS", x.seek(1, 6, 1, 0), NO);
        due("seek(4, 6, 1, 0)", x.seek(4, 6, 1, 0), NO);
        due("seek(0, 6, 1, 0)", x.seek(0, 6, 1, 0), NO);
        // The one ahead of place i is none of them.
        due("seek(1, 2, 1, 0)", x.seek(1, 2, 1, 0), 1);
        due("seek(5, 6, 2, 0)", x.seek(5, 6, 2, 0), 1);
        x.rule(0, 3);
        due("seek(1, 6, 1, 0) by vowels", x.seek(1, 6, 1, 0), 2);
        due("seek(0, 6, 1, 0) by vowels", x.seek(0, 6, 1, 0), NO);
        x.step(400);
        due("seek(0, 6, 1, 0) when DONE", x.seek(0, 6, 1, 0), 2);
    }

    private static void lessBounds() {
        says("Whether a RECORD of a KEY is LESS than one of another KEY: 1, 0. BAD.");
        RunSorter x = new RunSorter();
        due("less(0, 25)", x.less(0, 25), 1);
        due("less(25, 0)", x.less(25, 0), 0);
        due("less(0, 0)", x.less(0, 0), 0);
        due("less(25, 25)", x.less(25, 25), 0);
        int[] noKeys = {-1, 26, MIN, MAX};
        for (int key : noKeys) {
            due("less(" + key + ", 0)", x.less(key, 0), BAD);
            due("less(0, " + key + ")", x.less(0, key), BAD);
            due("less(" + key + ", " + key + ")", x.less(key, key), BAD);
        }
    }

    private static void lessByOrders() {
        says("0 its KEY is earlier in a to z; 1 it is later");
        RunSorter x = new RunSorter();
        due("less(24, 25)", x.less(24, 25), 1);
        due("less(1, 0)", x.less(1, 0), 0);
        x.rule(0, 1);
        due("less(1, 0)", x.less(1, 0), 1);
        due("less(24, 25)", x.less(24, 25), 0);
        due("less(7, 7)", x.less(7, 7), 0);
        says("2 its place among a to z (a: 0) modulo 5 is less");
        x.rule(0, 2);
        due("less(e, f), 4 and 0", x.less(4, 5), 0);
        due("less(f, e), 0 and 4", x.less(5, 4), 1);
        due("less(a, f), 0 and 0", x.less(0, 5), 0);
        due("less(z, a), 0 and 0", x.less(25, 0), 0);
        due("less(z, y), 0 and 4", x.less(25, 24), 1);
        says("3 it is a vowel (a e i o u), the other one is none");
        x.rule(0, 3);
        int[] vowels = {0, 4, 8, 14, 20};
        for (int vowel : vowels) {
            due("less(" + vowel + ", z)", x.less(vowel, 25), 1);
            due("less(z, " + vowel + ")", x.less(25, vowel), 0);
            due("less(" + vowel + ", a)", x.less(vowel, 0), 0);
            due("less(a, " + vowel + ")", x.less(0, vowel), 0);
        }
        due("less(y, b), neither is one", x.less(24, 1), 0);
        due("less(b, y), neither is one", x.less(1, 24), 0);
        due("less(a, y)", x.less(0, 24), 1);
    }

    private static void countBounds() {
        says("0 RECORDS, 1 ORDER, 2 POLICY, 3 LEAST, 4 LEAP, 5 letters of THE TEXT, 6 RECORDS in RUNS (PUSHED or WAITING)");
        RunSorter x = Checks.laidRuns(1, 5, 3);
        x.rule(0, 0);
        x.rule(3, 9);
        x.write('?');
        int[] counts = {8, 0, 1, 2, 9, 9, 0};
        for (int what = 0; what < counts.length; what++) {
            due("count(" + what + ")", x.count(what), counts[what]);
        }
        int[] bads = {-1, 8, MIN, MAX};
        for (int bad : bads) {
            due("count(" + bad + ")", x.count(bad), BAD);
        }
        int[] inRuns = {0, 5, 5, 8, 8, 8};
        for (int i = 0; i < inRuns.length; i++) {
            due("count(6) behind " + i + " STEPS", x.count(6), inRuns[i]);
            x.step(1);
        }
    }

    private static void countWhetherDone() {
        says("7 whether all is DONE (1, 0). BAD.");
        RunSorter x = Checks.laid("z");
        int[] done = {0, 0, 1, 1};
        for (int i = 0; i < done.length; i++) {
            due("count(7) behind " + i + " STEPS", x.count(7), done[i]);
            x.step(1);
        }
        x.start();
        due("count(7) at START", x.count(7), 0);
        x = Checks.laidRuns(0, 4, 4);
        x.step(4);
        due("count(7) with two RUNS", x.count(7), 0);
        x.step(1);
        due("count(7) with one RUN", x.count(7), 1);
    }

    // ---- refusals

    private static void refusalsInOrder() {
        says("Of several the first in the order told");
        RunSorter x = new RunSorter();
        for (int i = 0; i < 200; i++) {
            x.write('a');
        }
        due("write(31) of a full TEXT", x.write(31), BAD);
        due("write(127) of a full TEXT", x.write(127), BAD);
        due("write(32) of a full TEXT", x.write(32), FULL);
        x = Checks.laid("cba");
        // Not so many RUNS, and a number that is none.
        due("run(0, 3) of none", x.run(0, 3), BAD);
        due("run(0, -1) of none", x.run(0, -1), BAD);
        due("run(9, 3) of none", x.run(9, 3), BAD);
        due("run(-2, 3)", x.run(-2, 3), BAD);
        // RECORDS that are not in order, and a number that is none.
        due("seek(0, 3, 26, 0)", x.seek(0, 3, 26, 0), BAD);
        due("seek(0, 3, -1, 0)", x.seek(0, 3, -1, 0), BAD);
        due("seek(0, 3, 0, 2)", x.seek(0, 3, 0, 2), BAD);
        due("seek(0, 3, 0, -1)", x.seek(0, 3, 0, -1), BAD);
        due("seek(-1, 3, 0, 0)", x.seek(-1, 3, 0, 0), BAD);
        due("seek(0, 4, 0, 0)", x.seek(0, 4, 0, 0), BAD);
        due("seek(0, 3, 0, 0)", x.seek(0, 3, 0, 0), NO);
        due("put(3, 0), a place that is none with a KEY that the last has", x.put(3, 0), BAD);
        due("rule(4, 0)", x.rule(4, 0), BAD);
    }

    /** States at which a call is refused: at START, with RUNS, one WAITING, by other rules, DONE. */
    private static List<Checks.Recipe> states() {
        List<Checks.Recipe> all = new ArrayList<>();
        all.add(RunSorter::new);
        all.add(() -> stepped(1));
        all.add(() -> stepped(4));
        all.add(() -> stepped(5));
        all.add(() -> stepped(6));
        all.add(() -> stepped(400));
        all.add(() -> {
            RunSorter x = stepped(3);
            x.rule(0, 2);
            x.rule(1, 2);
            x.rule(3, 1);
            x.put(2, 9);
            x.step(7);
            return x;
        });
        all.add(() -> {
            RunSorter x = stepped(5);
            x.write('?');
            return x;
        });
        return all;
    }

    private static RunSorter stepped(int n) {
        RunSorter x = Checks.laidRuns(0, 4, 4, 4, 4);
        x.step(n);
        return x;
    }

    private static RunSorter withFullText() {
        RunSorter x = Checks.laid("dcbaab");
        Checks.write(x, "q".repeat(194));
        x.step(1);
        return x;
    }

    private static void refusedChangesNothing() {
        says("BAD: a number is none that is told (places 0 to less than how many RECORDS there are).");
        List<Checks.Call> bads = new ArrayList<>();
        int[] noNumbers = {-3, MIN, MAX};
        for (int n : noNumbers) {
            bads.add(new Checks.Call("write(" + n + ")", x -> x.write(n)));
            bads.add(new Checks.Call("rule(" + n + ", 2)", x -> x.rule(n, 2)));
            bads.add(new Checks.Call("put(" + n + ", 1)", x -> x.put(n, 1)));
            bads.add(new Checks.Call("put(1, " + n + ")", x -> x.put(1, n)));
            bads.add(new Checks.Call("step(" + n + ")", x -> x.step(n)));
            bads.add(new Checks.Call("at(" + n + ", 0)", x -> x.at(n, 0)));
            bads.add(new Checks.Call("at(0, " + n + ")", x -> x.at(0, n)));
            bads.add(new Checks.Call("place(" + n + ")", x -> x.place(n)));
            bads.add(new Checks.Call("run(0, " + n + ")", x -> x.run(0, n)));
            bads.add(new Checks.Call("cost(" + n + ")", x -> x.cost(n)));
            bads.add(new Checks.Call("would(" + n + ", 0)", x -> x.would(n, 0)));
            bads.add(new Checks.Call("would(0, " + n + ")", x -> x.would(0, n)));
            bads.add(new Checks.Call("seek(" + n + ", 1, 0, 0)", x -> x.seek(n, 1, 0, 0)));
            bads.add(new Checks.Call("seek(1, " + n + ", 0, 0)", x -> x.seek(1, n, 0, 0)));
            bads.add(new Checks.Call("seek(0, 1, " + n + ", 0)", x -> x.seek(0, 1, n, 0)));
            bads.add(new Checks.Call("seek(0, 1, 0, " + n + ")", x -> x.seek(0, 1, 0, n)));
            bads.add(new Checks.Call("less(" + n + ", 0)", x -> x.less(n, 0)));
            bads.add(new Checks.Call("less(0, " + n + ")", x -> x.less(0, n)));
            bads.add(new Checks.Call("count(" + n + ")", x -> x.count(n)));
            for (int what = 0; what < 4; what++) {
                int rule = what;
                bads.add(new Checks.Call("rule(" + rule + ", " + n + ")", x -> x.rule(rule, n)));
            }
        }
        bads.add(new Checks.Call("run(-2, 0)", x -> x.run(-2, 0)));
        bads.add(new Checks.Call("step(0)", x -> x.step(0)));
        bads.add(new Checks.Call("step(401)", x -> x.step(401)));
        bads.add(new Checks.Call("put of the place behind the last", x -> x.put(x.count(0), 3)));
        bads.add(new Checks.Call("put(0, 26)", x -> x.put(0, 26)));
        bads.add(new Checks.Call("write(127)", x -> x.write(127)));
        for (Checks.Recipe state : states()) {
            for (Checks.Call bad : bads) {
                Checks.changesNothing(state, bad, BAD);
            }
        }
    }

    private static void refusedByStateChangesNothing() {
        says("NO: not as things stand. NONE: there is none. FULL.");
        for (Checks.Recipe state : states()) {
            RunSorter now = state.get();
            for (int what = 0; what < 4; what++) {
                int rule = what;
                int number = now.count(what + 1);
                Checks.changesNothing(state, new Checks.Call("rule(" + rule + ") as it is", x -> x.rule(rule, number)), NO);
            }
            now.start();
            int key = now.at(1, 0);
            Checks.changesNothing(state, new Checks.Call("put(1) as it is", x -> x.put(1, key)), NO);
            Checks.changesNothing(state, new Checks.Call("run(50, 0)", x -> x.run(50, 0)), NONE);
        }
        Checks.Recipe full = CallBoundsTest::withFullText;
        Checks.changesNothing(full, new Checks.Call("write('a') of a full TEXT", x -> x.write('a')), FULL);
        Checks.changesNothing(full, new Checks.Call("write(31) of a full TEXT", x -> x.write(31)), BAD);
        Checks.changesNothing(full, new Checks.Call("lay() of 200", x -> x.lay()), NO);
        Checks.Recipe noneWaits = () -> stepped(2);
        Checks.changesNothing(noneWaits, new Checks.Call("waiting()", x -> x.waiting()), NONE);
        Checks.changesNothing(noneWaits, new Checks.Call("due()", x -> x.due()), NONE);
        Checks.changesNothing(noneWaits, new Checks.Call("fault()", x -> x.fault()), NONE);
        Checks.changesNothing(noneWaits, new Checks.Call("seek(0, 16, 3, 0)", x -> x.seek(0, 16, 3, 0)), NO);
        Checks.Recipe empty = () -> {
            RunSorter x = stepped(5);
            x.wipe();
            return x;
        };
        Checks.changesNothing(empty, new Checks.Call("lay() of none", x -> x.lay()), NO);
        Checks.Recipe faulty = () -> {
            RunSorter x = stepped(5);
            x.write('A');
            return x;
        };
        Checks.changesNothing(faulty, new Checks.Call("lay() with a FAULT", x -> x.lay()), NO);
    }

    private static void lookingChangesNothing() {
        says("What the next STEP is: 1 a RUN is PUSHED");
        for (Checks.Recipe state : states()) {
            RunSorter asked = state.get();
            asked.next();
            asked.waiting();
            asked.due();
            asked.fault();
            asked.descents();
            asked.inversions();
            asked.less(3, 4);
            asked.place(2);
            for (int what = 0; what < 3; what++) {
                asked.run(0, what);
                asked.would(what, 0);
                asked.would(what, 10);
                asked.seek(0, 1, 5, what);
                asked.seek(0, 4, 5, what);
            }
            Checks.sameFromNowOn("all that only look", asked, state.get());
        }
    }

    private static void writingLeavesTheRow() {
        says("A letter (32 to 126, as in ASCII) comes behind THE TEXT");
        RunSorter x = stepped(5);
        due("write('b')", x.write('b'), 17);
        due("wipe()", x.wipe(), 17);
        RunSorter y = stepped(5);
        due("wipe()", y.wipe(), 16);
        Checks.sameFromNowOn("write() and wipe()", x, y);
    }
}
