import java.util.Random;

/** Chance runs of 512 calls, the same ones each time, held against the naive telling. */
public final class ChanceTest {
    private static final int RUNS = 480;
    private static final int CALLS = 512;
    private static final int HARD_RUNS = 60;
    private static final int[] HARD_WEEKS = {101, 130, 1010, 1313, 1616, 3104, 6060, 6161, 5151, 4104, 1213, 6012};
    private static final int[] ODD = {Integer.MIN_VALUE, Integer.MIN_VALUE + 9, -1000, -2, -1, 7, 8, 9, 10, 17, 60, 100,
        127, 694, 10000, 65537, Integer.MAX_VALUE - 9, Integer.MAX_VALUE};
    private static final String[] NAMES = {"swans", "number", "say", "wipe", "fault", "judge", "done", "at", "behind",
        "taught", "read", "longest", "plan", "week", "sell", "worn", "rivals", "seen", "forget", "filled", "pikes", "year",
        "image", "restore", "told"};
    /** How often each call comes, by its name's place above. */
    private static final int[] WEIGHTS = {2, 8, 1, 2, 4, 6, 6, 6, 8, 8, 8, 4, 4, 2, 5, 5, 5, 5, 1, 8, 5, 5, 2, 2, 6};

    private final Random random;
    private final int most;
    /** Whether NUMBERS are small ones, so that many of them are the same. */
    private final boolean small;
    /** In how many signs one is wrong. */
    private final int care;
    private SwanSums x = new SwanSums();
    private Naive y = new Naive();

    private ChanceTest(int seed) {
        random = new Random(seed);
        most = seed % 8 == 0 ? 7 : seed % 8 == 1 ? 6 : 5;
        small = seed % 3 == 0;
        care = seed % 5 == 0 ? 9 : 60;
    }

    public static void main(String[] args) {
        Check.holds("a weight a name", NAMES.length == WEIGHTS.length);
        for (int seed = 0; seed < RUNS; seed++) {
            new ChanceTest(seed).run("run " + seed);
        }
        for (int seed = 0; seed < HARD_RUNS; seed++) {
            new ChanceTest(8 * seed).runHard("hard run " + seed);
        }
        Check.end("ChanceTest");
    }

    /** Weeks and plans of seven SWANS, the longest searches that there are. */
    private void runHard(String name) {
        Check.due(name + " swans", x.swans(7), y.swans(7));
        int[] numbers = new int[7];
        for (int swan = 0; swan < 7; swan++) {
            numbers[swan] = random.nextInt(small ? 12 : 100);
            Check.due(name + " number", x.number(swan, numbers[swan]), y.number(swan, numbers[swan]));
        }
        for (int k = 0; k < 3; k++) {
            int digits = HARD_WEEKS[random.nextInt(HARD_WEEKS.length)];
            String told = name + java.util.Arrays.toString(numbers) + " week " + digits;
            Check.due(told, x.week(digits, 4), y.week(digits, 4));
        }
        for (int lesson = 0; lesson < 7; lesson++) {
            for (int i = -1; i < 7; i += 1 + random.nextInt(3)) {
                String told = name + java.util.Arrays.toString(numbers) + " plan " + lesson + " " + i;
                Check.due(told, x.plan(lesson, i), y.plan(lesson, i));
            }
        }
    }

    private void run(String name) {
        int asked = 0;
        while (asked < CALLS) {
            if (random.nextInt(8) == 0) {
                asked += sayDay(name);
            } else {
                int call = chooseCall();
                int[] a = {argument(call, 0), argument(call, 1), argument(call, 2)};
                if (call == 0 && a[0] > most && a[0] <= 7) {
                    a[0] = most;
                }
                String told = name + ", call " + asked + " " + NAMES[call] + java.util.Arrays.toString(a);
                Check.due(told, ofProgram(call, a), ofNaive(call, a));
                asked++;
            }
        }
    }

    private int chooseCall() {
        int sum = 0;
        for (int w : WEIGHTS) {
            sum += w;
        }
        int left = random.nextInt(sum);
        int call = 0;
        while (left >= WEIGHTS[call]) {
            left -= WEIGHTS[call];
            call++;
        }
        return call;
    }

    /** A text that mostly can be: it makes the calls that ask for a DAY worth asking. */
    private int sayDay(String name) {
        int asked = 0;
        if (random.nextInt(8) > 0) {
            Check.due(name + " wipe", x.wipe(), y.wipe());
            asked++;
        }
        int events = random.nextInt(6);
        boolean told = random.nextInt(3) > 0;
        int gaps = told ? 0 : 3;
        int size = y.told(2);
        for (int k = 0; k < events; k++) {
            String sorts = random.nextInt(8) == 0 ? "bprgx" : "bprg";
            char sort = sorts.charAt(random.nextInt(sorts.length()));
            asked += sayBoth(name, sort);
            if (sort == 'r') {
                continue;
            }
            boolean gap = sort != 'x' && gaps > 0 && random.nextBoolean();
            gaps -= gap ? 1 : 0;
            int digit = random.nextInt(random.nextInt(care) == 0 ? 10 : Math.max(1, size - 1));
            asked += sayBoth(name, gap ? '?' : (char) ('0' + digit));
        }
        if (random.nextInt(care) == 0) {
            asked += sayBoth(name, "bpgxr?09zA".charAt(random.nextInt(10)));
        }
        return told ? asked : asked + fillGaps(name);
    }

    /** With few SIGHTS, so that there are ways now and then. */
    private int fillGaps(String name) {
        Check.due(name + " forget()", x.forget(), y.forget());
        int sights = random.nextInt(3);
        for (int k = 0; k < sights; k++) {
            int swan = random.nextInt(most);
            int place = random.nextInt(most);
            Check.due(name + " seen", x.seen(swan, place), y.seen(swan, place));
        }
        for (int i = -1; i < 4; i++) {
            Check.due(name + " filled(" + i + ")", x.filled(i), y.filled(i));
        }
        return 6 + sights;
    }

    private int sayBoth(String name, int sign) {
        Check.due(name + " say(" + sign + ")", x.say(sign), y.say(sign));
        return 1;
    }

    private int argument(int call, int which) {
        if (random.nextInt(16) == 0) {
            return ODD[random.nextInt(ODD.length)];
        }
        switch (NAMES[call]) {
            case "swans":
                return Math.max(1, most - random.nextInt(random.nextInt(4) == 0 ? 7 : 2));
            case "number":
                return which == 0 ? random.nextInt(7) : random.nextInt(small ? 7 : 100);
            case "say":
                return random.nextInt(9) == 0 ? random.nextInt(130) : "bprgx0123456789?".charAt(random.nextInt(16));
            case "read":
                return which == 0 ? random.nextInt(random.nextBoolean() ? 20 : 694) : random.nextInt(3);
            case "plan":
                return which == 0 ? random.nextInt(7) : random.nextInt(5) - 1;
            case "week":
                return which == 0 ? weekDigits() : 1 + random.nextInt(4);
            case "worn":
                return random.nextInt(which == 2 ? 3 : 7);
            case "pikes":
                return random.nextInt(which == 0 ? 7 : which == 1 ? 4 : 2);
            case "year":
                return which == 0 ? random.nextInt(10000) : which == 1 ? 1 + random.nextInt(99) : random.nextInt(18);
            case "seen":
                return random.nextInt(5);
            case "filled":
            case "behind":
                return random.nextInt(6) - 1;
            case "told":
                return random.nextInt(18);
            case "image":
            case "restore":
            case "taught":
            case "rivals":
                return random.nextInt(2);
            default:
                return random.nextInt(8);
        }
    }

    private int weekDigits() {
        int digits = 0;
        int many = 1 + random.nextInt(4);
        for (int k = 0; k < many; k++) {
            digits = 10 * digits + random.nextInt(7);
        }
        return digits;
    }

    private long ofProgram(int call, int[] a) {
        switch (NAMES[call]) {
            case "swans": return x.swans(a[0]);
            case "number": return x.number(a[0], a[1]);
            case "say": return x.say(a[0]);
            case "wipe": return x.wipe();
            case "fault": return x.fault();
            case "judge": return x.judge();
            case "done": return x.done();
            case "at": return x.at(a[0]);
            case "behind": return x.behind(a[0]);
            case "taught": return x.taught(a[0]);
            case "read": return x.read(a[0], a[1]);
            case "longest": return x.longest();
            case "plan": return x.plan(a[0], a[1]);
            case "week": return x.week(a[0], a[1]);
            case "sell": return x.sell(a[0]);
            case "worn": return x.worn(a[0], a[1], a[2]);
            case "rivals": return x.rivals(a[0]);
            case "seen": return x.seen(a[0], a[1]);
            case "forget": return x.forget();
            case "filled": return x.filled(a[0]);
            case "pikes": return x.pikes(a[0], a[1], a[2]);
            case "year": return x.year(a[0], a[1], a[2]);
            case "image": return x.image(a[0]);
            case "restore": return x.restore(a[0]);
            default: return x.told(a[0]);
        }
    }

    private long ofNaive(int call, int[] a) {
        switch (NAMES[call]) {
            case "swans": return y.swans(a[0]);
            case "number": return y.number(a[0], a[1]);
            case "say": return y.say(a[0]);
            case "wipe": return y.wipe();
            case "fault": return y.fault();
            case "judge": return y.judge();
            case "done": return y.done();
            case "at": return y.at(a[0]);
            case "behind": return y.behind(a[0]);
            case "taught": return y.taught(a[0]);
            case "read": return y.read(a[0], a[1]);
            case "longest": return y.longest();
            case "plan": return y.plan(a[0], a[1]);
            case "week": return y.week(a[0], a[1]);
            case "sell": return y.sell(a[0]);
            case "worn": return y.worn(a[0], a[1], a[2]);
            case "rivals": return y.rivals(a[0]);
            case "seen": return y.seen(a[0], a[1]);
            case "forget": return y.forget();
            case "filled": return y.filled(a[0]);
            case "pikes": return y.pikes(a[0], a[1], a[2]);
            case "year": return y.year(a[0], a[1], a[2]);
            case "image": return y.image(a[0]);
            case "restore": return y.restore(a[0]);
            default: return y.told(a[0]);
        }
    }
}
