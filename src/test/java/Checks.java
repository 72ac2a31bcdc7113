import java.util.ArrayList;
import java.util.List;
import java.util.function.ToIntFunction;

/** What the tests of bounds share: rows to begin with, and telling which sentence does not hold. */
final class Checks {
    static final int BAD = -1, NO = -2, FULL = -3, NONE = -4;
    static final int MIN = Integer.MIN_VALUE, MAX = Integer.MAX_VALUE;
    static final int PUSHED = 1, FOUND = 2, MERGED = 3, DONE = 0;

    private static final String LETTERS = "abcdefghijklmnopqrstuvwxyz";

    private static int wrong = 0;
    private static int held = 0;
    private static String sentence = "";

    private Checks() {
    }

    /** From here on it is this sentence of the document that is looked at. */
    static void says(String words) {
        sentence = words;
        held++;
    }

    static void due(String call, int got, int want) {
        if (got != want) {
            wrong++;
            System.out.println("\"" + sentence + "\": " + call + " answered " + got + ", due is " + want);
        }
    }

    static void end() {
        System.out.println(wrong == 0 ? held + " sentences hold" : wrong + " answers are not as due");
        if (wrong != 0) {
            System.exit(1);
        }
    }

    static void write(RunSorter x, String letters) {
        for (char c : letters.toCharArray()) {
            x.write(c);
        }
    }

    static RunSorter laid(String letters) {
        RunSorter x = new RunSorter();
        write(x, letters);
        due("lay() of " + letters, x.lay(), letters.length());
        return x;
    }

    /** LEAST 2, so that no RUN of two or more is made longer. */
    static RunSorter laidAsItLies(String letters) {
        RunSorter x = laid(letters);
        x.rule(2, 2);
        return x;
    }

    /** RUNS that go UP, of these lengths (2 or more; 1 at the end), as they lie. */
    static RunSorter laidRuns(int policy, int... lengths) {
        StringBuilder text = new StringBuilder();
        for (int length : lengths) {
            text.append("a".repeat(Math.max(0, length - LETTERS.length())));
            text.append(LETTERS, 0, Math.min(length, LETTERS.length()));
        }
        RunSorter x = laidAsItLies(text.toString());
        x.rule(1, policy);
        return x;
    }

    static void keysAre(RunSorter x, String keys) {
        due("count(0)", x.count(0), keys.length());
        for (int i = 0; i < keys.length(); i++) {
            due("at(" + i + ", 0)", x.at(i, 0), keys.charAt(i) - 'a');
        }
    }

    static void tagsAre(RunSorter x, int... tags) {
        for (int i = 0; i < tags.length; i++) {
            due("at(" + i + ", 1)", x.at(i, 1), tags[i]);
        }
    }

    /** None is LESS than the one ahead of it, those alike stand by TAGS, each TAG stands once. */
    static void isSorted(RunSorter x) {
        int records = x.count(0);
        for (int i = 0; i < records; i++) {
            due("place() of the TAG at " + i, x.place(x.at(i, 1)), i);
        }
        for (int i = 1; i < records; i++) {
            int ahead = x.at(i - 1, 0);
            int key = x.at(i, 0);
            boolean alike = x.less(ahead, key) == 0 && x.less(key, ahead) == 0;
            due("less(), the one at " + i + " and that ahead", x.less(key, ahead), 0);
            due("TAGS of those alike up to " + i, alike && x.at(i, 1) < x.at(i - 1, 1) ? 1 : 0, 0);
        }
    }

    static void isAtStart(RunSorter x) {
        for (int what = 0; what < 12; what++) {
            due("cost(" + what + ")", x.cost(what), what == 10 ? x.count(4) : 0);
        }
        due("run(-1, 0)", x.run(-1, 0), 0);
        due("waiting()", x.waiting(), NONE);
        due("next()", x.next(), FOUND);
        due("count(6)", x.count(6), 0);
        int records = x.count(0);
        for (int i = 0; i < records; i++) {
            due("at(" + i + ", 1)", x.at(i, 1), i);
        }
    }

    /** A call with its name, so that it can be made on one of two like objects alone. */
    record Call(String name, ToIntFunction<RunSorter> make) {
    }

    /** How an object came to be as it is; each get() makes another one that is just so. */
    interface Recipe {
        RunSorter get();
    }

    /** The call answers so, and an object on which it was made is as one on which it was not. */
    static void changesNothing(Recipe recipe, Call call, int want) {
        RunSorter asked = recipe.get();
        due(call.name(), call.make().applyAsInt(asked), want);
        sameFromNowOn(call.name(), asked, recipe.get());
    }

    /** Whether two objects answer alike, now and when they go on; both are at another place then. */
    static void sameFromNowOn(String behind, RunSorter one, RunSorter other) {
        List<Integer> got = allThatCanBeSeen(one);
        List<Integer> want = allThatCanBeSeen(other);
        due(behind + ", how much can be seen", got.size(), want.size());
        for (int i = 0; i < Math.min(got.size(), want.size()); i++) {
            due(behind + ", then look " + i, got.get(i), want.get(i));
        }
    }

    private static List<Integer> allThatCanBeSeen(RunSorter x) {
        List<Integer> seen = new ArrayList<>();
        lookAtRow(x, seen);
        lookAtSteps(x, seen);
        seen.add(x.step(400));
        lookAtSteps(x, seen);
        seen.add(x.start());
        lookAtRow(x, seen);
        seen.add(x.fault());
        seen.add(x.lay());
        lookAtRow(x, seen);
        seen.add(x.wipe());
        return seen;
    }

    private static void lookAtRow(RunSorter x, List<Integer> seen) {
        int records = x.count(0);
        for (int i = 0; i < records; i++) {
            seen.add(x.at(i, 0));
            seen.add(x.at(i, 1));
        }
    }

    private static void lookAtSteps(RunSorter x, List<Integer> seen) {
        for (int what = 0; what < 12; what++) {
            seen.add(x.cost(what));
        }
        for (int what = 0; what < 8; what++) {
            seen.add(x.count(what));
        }
        int runs = x.run(-1, 0);
        for (int i = 0; i < runs; i++) {
            for (int what = 0; what < 3; what++) {
                seen.add(x.run(i, what));
            }
        }
        seen.add(runs);
        seen.add(x.waiting());
        seen.add(x.next());
        seen.add(x.due());
        seen.add(x.descents());
        seen.add(x.inversions());
    }
}
