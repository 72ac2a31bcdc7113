import java.util.Random;

/** Holds RunSorter against Model over many made-up runs of calls; the seeds are fixed. */
public final class ModelTest {
    private static final int RUNS = 3000;
    private static final int CALLS = 512;
    private static final int[] EDGES = {
        Integer.MIN_VALUE, Integer.MAX_VALUE, -5, -2, -1, 0, 1, 2, 3, 4, 9, 10, 11, 12, 25, 26,
        40, 41, 95, 96, 97, 122, 123, 127, 400, 401};

    private static int wrong = 0;

    private final Random random;
    private final RunSorter real = new RunSorter();
    private final Model model = new Model();
    private final StringBuilder told = new StringBuilder();
    private int calls = 0;

    private ModelTest(long seed) {
        random = new Random(seed);
    }

    public static void main(String[] args) {
        for (int run = 1; run <= RUNS && wrong < 20; run++) {
            new ModelTest(run).play(run);
        }
        System.out.println(wrong == 0 ? "RunSorter and Model agree" : wrong + " answers differ");
        if (wrong != 0) {
            System.exit(1);
        }
    }

    private void play(int run) {
        if (run % 40 == 0) {
            fillText();
        } else if (run % 5 != 0) {
            writeRow();
        }
        while (calls < CALLS) {
            randomCall();
            if (random.nextInt(25) == 0) {
                same("step", 1 + random.nextInt(60));
                lookAtAll();
            }
        }
    }

    private int edgeOr(int low, int high) {
        return random.nextInt(12) == 0
                ? EDGES[random.nextInt(EDGES.length)] : low + random.nextInt(high - low + 1);
    }

    /** Rows of different make: few letters, long runs up and down, like letters, chance. */
    private void writeRow() {
        same("wipe");
        int length = random.nextInt(6) == 0 ? 1 + random.nextInt(98) : 20 + random.nextInt(77);
        int make = random.nextInt(5);
        int letter = random.nextInt(26);
        int way = 1;
        for (int i = 0; i < length; i++) {
            same("write", 'a' + letter);
            switch (make) {
                case 0: letter = random.nextInt(26); break;
                case 1: letter = random.nextInt(3); break;
                case 2: letter = random.nextInt(9) == 0 ? random.nextInt(26) : letter; break;
                default:
                    way = random.nextInt(make == 3 ? 12 : 30) == 0 ? -way : way;
                    letter = Math.floorMod(letter + way * random.nextInt(3), 26);
            }
        }
        same("fault");
        same("lay");
    }

    private void fillText() {
        for (int i = 0; i < 203; i++) {
            same("write", edgeOr(97, 122));
        }
        same("fault");
        same("lay");
    }

    private void lookAtAll() {
        int records = model.count(0);
        for (int what = 0; what < 12; what++) {
            same("cost", what);
        }
        int place = random.nextInt(records);
        same("at", place, 0);
        same("at", place, 1);
        same("place", place);
        same("descents");
        same("inversions");
        for (int i = 0; i <= model.run(-1, 0); i++) {
            same("run", i, random.nextInt(3));
        }
        if (random.nextInt(5) == 0) {
            for (int i = 0; i < records; i++) {
                same("at", i, 0);
                same("at", i, 1);
            }
        }
    }

    private void randomCall() {
        int records = model.count(0);
        switch (random.nextInt(24)) {
            case 0: same("write", random.nextInt(4) == 0 ? edgeOr(30, 130) : edgeOr(97, 122)); break;
            case 1: if (random.nextInt(6) == 0) { same("wipe"); } break;
            case 2: same("fault"); break;
            case 3: if (random.nextInt(4) == 0) { same("lay"); } break;
            case 4: same("rule", edgeOr(0, 3), edgeOr(0, 9)); break;
            case 5: same("put", edgeOr(0, records - 1), edgeOr(0, 25)); break;
            case 6: if (random.nextInt(4) == 0) { same("start"); } break;
            case 7: case 8: case 9: same("step", edgeOr(1, 6)); break;
            case 10: same("next"); break;
            case 11: same("at", edgeOr(0, records), edgeOr(0, 1)); break;
            case 12: same("place", edgeOr(0, records)); break;
            case 13: case 14: same("run", edgeOr(-1, 6), edgeOr(0, 2)); break;
            case 15: same("waiting"); break;
            case 16: same("due"); break;
            case 17: same("cost", edgeOr(0, 11)); break;
            case 18: same("would", edgeOr(0, 2), edgeOr(0, 11)); break;
            case 19: same("descents"); same("inversions"); break;
            case 20: seekSomewhere(records); break;
            case 21: same("less", edgeOr(0, 25), edgeOr(0, 25)); break;
            default: same("count", edgeOr(0, 7)); break;
        }
    }

    private void seekSomewhere(int records) {
        int from = edgeOr(0, records);
        int to = random.nextBoolean() ? edgeOr(0, records) : from + random.nextInt(12);
        int key = edgeOr(0, 25);
        same("seek", from, to, key, 0);
        same("seek", from, to, key, edgeOr(0, 1));
    }

    private void same(String name, int... x) {
        if (calls >= CALLS) {
            return;
        }
        calls++;
        int got = 0;
        int want = 0;
        switch (name) {
            case "write": got = real.write(x[0]); want = model.write(x[0]); break;
            case "wipe": got = real.wipe(); want = model.wipe(); break;
            case "fault": got = real.fault(); want = model.fault(); break;
            case "lay": got = real.lay(); want = model.lay(); break;
            case "rule": got = real.rule(x[0], x[1]); want = model.rule(x[0], x[1]); break;
            case "put": got = real.put(x[0], x[1]); want = model.put(x[0], x[1]); break;
            case "start": got = real.start(); want = model.start(); break;
            case "step": got = real.step(x[0]); want = model.step(x[0]); break;
            case "next": got = real.next(); want = model.next(); break;
            case "at": got = real.at(x[0], x[1]); want = model.at(x[0], x[1]); break;
            case "place": got = real.place(x[0]); want = model.place(x[0]); break;
            case "run": got = real.run(x[0], x[1]); want = model.run(x[0], x[1]); break;
            case "waiting": got = real.waiting(); want = model.waiting(); break;
            case "due": got = real.due(); want = model.due(); break;
            case "cost": got = real.cost(x[0]); want = model.cost(x[0]); break;
            case "would": got = real.would(x[0], x[1]); want = model.would(x[0], x[1]); break;
            case "descents": got = real.descents(); want = model.descents(); break;
            case "inversions": got = real.inversions(); want = model.inversions(); break;
            case "seek": got = real.seek(x[0], x[1], x[2], x[3]); want = model.seek(x[0], x[1], x[2], x[3]); break;
            case "less": got = real.less(x[0], x[1]); want = model.less(x[0], x[1]); break;
            case "count": got = real.count(x[0]); want = model.count(x[0]); break;
            default: throw new IllegalStateException(name);
        }
        told.append(name).append(java.util.Arrays.toString(x)).append(' ');
        if (got != want) {
            differs(name + java.util.Arrays.toString(x), got, want);
        }
    }

    private void differs(String call, int got, int want) {
        wrong++;
        System.out.println(call + " answered " + got + ", the model " + want + ", behind: " + told);
        calls = CALLS;
    }
}
