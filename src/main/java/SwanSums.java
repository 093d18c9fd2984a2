import java.util.Arrays;

/**
 * Sums on the swans: who is where past the window, the days that change it,
 * and the lessons that the order teaches. See README.md and the document.
 *
 * Rows and lines of numbers are packed into one int or long each, so that
 * searches over thousands of rows make no objects.
 */
public final class SwanSums {
    public static final int NONE = -6, UNKNOWN = -1, OUTSIDE = -2, STATE = -3, FULL = -4, NO = -5;
    public static final long LOST = -1000000000000000000L;

    private static final int MOST_SWANS = 7;
    private static final int SWANS_AT_FIRST = 4;
    private static final int MOST_NUMBER = 99;
    private static final int MOST_SUM = MOST_SWANS * MOST_NUMBER;
    private static final int LESSONS = 7;
    private static final int MOST_LESSONS_A_WEEK = 4;
    private static final int MOST_PIKES = 3;
    private static final int MOST_SEED = 9999;
    private static final int MOST_NOONS = 99;
    private static final int OF_SWANS = 10;

    private final Flock flock = new Flock();
    private final Flock firstImage = new Flock();
    private final Flock secondImage = new Flock();
    private boolean firstKept = false;
    private boolean secondKept = false;
    private final Pad pad = new Pad();
    /** Null till a plan is first asked for: its rows are the dearest ones by far. */
    private Routes routes = null;

    public SwanSums() {
        flock.begin(SWANS_AT_FIRST);
    }

    // ---- 1 swans, days

    public int swans(int n) {
        if (n < 1 || n > MOST_SWANS) {
            return OUTSIDE;
        }
        int before = flock.all;
        flock.begin(n);
        return before;
    }

    public int number(int swan, int v) {
        if (!flock.has(swan)) {
            return UNKNOWN;
        }
        if (v < 0 || v > MOST_NUMBER) {
            return OUTSIDE;
        }
        int before = Lines.numberAt(flock.numbers, swan);
        flock.numbers = Lines.with(flock.numbers, swan, v);
        return before;
    }

    public int say(int sign) {
        if (sign < Pad.LEAST_SIGN || sign > Pad.MOST_SIGN) {
            return OUTSIDE;
        }
        return pad.add(sign) ? pad.count : FULL;
    }

    public int wipe() {
        int before = pad.count;
        pad.count = 0;
        return before;
    }

    public int fault() {
        return pad.firstFault();
    }

    // ---- 2 noons

    public int judge() {
        if (pad.firstFault() != NONE) {
            return NO;
        }
        if (pad.gaps() > 0) {
            return STATE;
        }
        return pad.pass(flock.row, flock.size, 0);
    }

    public int done() {
        int refusal = refusalOfDay();
        if (refusal != NONE) {
            return refusal;
        }
        int events = pad.events();
        flock.row = pad.rowBehind;
        flock.size = pad.sizeBehind;
        pad.count = 0;
        return events;
    }

    public int at(int place) {
        if (place < 0 || place >= flock.size) {
            return UNKNOWN;
        }
        return Rows.who(flock.row, place);
    }

    public int behind(int place) {
        int refusal = refusalOfDay();
        if (refusal != NONE) {
            return refusal;
        }
        if (place == -1) {
            return pad.sizeBehind;
        }
        if (place < 0 || place >= pad.sizeBehind) {
            return NONE;
        }
        return Rows.who(pad.rowBehind, place);
    }

    public int taught(int what) {
        if (what < 0 || what > 1) {
            return OUTSIDE;
        }
        if (what == 0) {
            return Lessons.asBits(flock.line(), flock.size);
        }
        int refusal = refusalOfDay();
        if (refusal != NONE) {
            return refusal;
        }
        return Lessons.asBits(Lines.inOrder(flock.numbers, pad.rowBehind, pad.sizeBehind), pad.sizeBehind);
    }

    public int read(int sum, int what) {
        if (sum < 0 || sum > MOST_SUM || what < 0 || what > 2) {
            return OUTSIDE;
        }
        long line = flock.line();
        if (what == 0) {
            return Lines.stretches(line, flock.size, sum);
        }
        return what == 1 ? Lines.firstStretch(line, flock.size, sum) : Lines.shortestStretch(line, flock.size, sum);
    }

    public int longest() {
        return Lines.longestRise(flock.line(), flock.size);
    }

    // ---- 3 plans, rivals

    public int plan(int lesson, int i) {
        if (!isLesson(lesson)) {
            return OUTSIDE;
        }
        Routes all = routesOfNow();
        int found = all.firstTaught(lesson, flock.line());
        if (found < 0) {
            return NONE;
        }
        int many = all.length(found);
        if (i == -1) {
            return many;
        }
        return i < 0 || i >= many ? NONE : all.event(found, many - 1 - i);
    }

    public int week(int lessons, int many) {
        if (many < 1 || many > MOST_LESSONS_A_WEEK || !areLessons(lessons, many)) {
            return OUTSIDE;
        }
        return routesOfNow().fewestInTurn(lessons, many, flock.line());
    }

    public int sell(int lesson) {
        if (!isLesson(lesson)) {
            return OUTSIDE;
        }
        int bits = 0;
        int left = flock.size - 1;
        for (int place = 0; left > 0 && place <= left; place++) {
            long line = Lines.inOrder(flock.numbers, Rows.sold(flock.row, place), left);
            if (Lessons.teach(lesson, line, left)) {
                bits |= 1 << Rows.who(flock.row, place);
            }
        }
        return bits;
    }

    public int worn(int swan, int lesson, int what) {
        int place = flock.placeOf(swan);
        if (place < 0) {
            return UNKNOWN;
        }
        if (!isLesson(lesson) || what < 0 || what > 2) {
            return OUTSIDE;
        }
        long line = flock.line();
        int many = 0;
        int least = NONE;
        int greatest = NONE;
        for (int v = 0; v <= MOST_NUMBER; v++) {
            if (Lessons.teach(lesson, Lines.with(line, place, v), flock.size)) {
                least = many == 0 ? v : least;
                greatest = v;
                many++;
            }
        }
        if (what == 0) {
            return many;
        }
        return what == 1 ? least : greatest;
    }

    public int rivals(int what) {
        if (what < 0 || what > 1) {
            return OUTSIDE;
        }
        long line = flock.line();
        int lead = Lines.lead(line, flock.size);
        if (what == 0) {
            return (Lines.sum(line, 0, flock.size) + lead) / 2;
        }
        return Lines.leadByFirst(line, flock.size) == lead ? 0 : 1;
    }

    // ---- 4 what is not told, pikes, years

    public int seen(int swan, int place) {
        if (!flock.has(swan)) {
            return UNKNOWN;
        }
        if (place < 0 || place >= MOST_SWANS) {
            return OUTSIDE;
        }
        return flock.addSight(swan, place) ? flock.sightCount : FULL;
    }

    public int forget() {
        int before = flock.sightCount;
        flock.dropSights();
        return before;
    }

    public int filled(int i) {
        if (pad.firstFault() != NONE) {
            return NO;
        }
        int gaps = pad.gaps();
        // No PLACE beyond THE ROW can be, so digits from its size on need no trial.
        int fills = Digits.power(flock.size, gaps);
        int ways = 0;
        int first = 0;
        for (int fill = 0; fill < fills; fill++) {
            int wrong = pad.pass(flock.row, flock.size, fill);
            if (wrong == NONE && flock.sightsHold(pad.rowBehind, pad.sizeBehind)) {
                first = ways == 0 ? fill : first;
                ways++;
            }
        }
        if (i == -1) {
            return ways;
        }
        if (ways == 0 || i < 0 || i >= gaps) {
            return NONE;
        }
        return Digits.digit(first, flock.size, gaps - 1 - i);
    }

    public long pikes(int lesson, int m, int part) {
        if (!isLesson(lesson) || m < 0 || m > MOST_PIKES || part < 0 || part > 1) {
            return LOST + OUTSIDE;
        }
        int ways = Digits.power(flock.size, m);
        int good = 0;
        for (int fill = 0; fill < ways; fill++) {
            long line = Lines.inOrder(flock.numbers, rowBehindPikes(fill, m), flock.size);
            if (Lessons.teach(lesson, line, flock.size)) {
                good++;
            }
        }
        int common = Digits.commonDivisor(good, ways);
        int told = part == 0 ? good : ways;
        return common > 0 ? told / common : told;
    }

    public int year(int seed, int m, int of) {
        boolean ofSwan = of >= OF_SWANS && flock.has(of - OF_SWANS);
        if (seed < 0 || seed > MOST_SEED || m < 1 || m > MOST_NOONS || !isLesson(of) && !ofSwan) {
            return OUTSIDE;
        }
        int x = seed;
        int row = flock.row;
        int many = 0;
        for (int noon = 0; noon < m; noon++) {
            x = (75 * x + 74) % 65537;
            row = rowBehindDraw(row, flock.size, x);
            boolean counts = ofSwan ? Rows.who(row, 0) == of - OF_SWANS
                    : Lessons.teach(of, Lines.inOrder(flock.numbers, row, flock.size), flock.size);
            many += counts ? 1 : 0;
        }
        return many;
    }

    public int image(int n) {
        if (n < 0 || n > 1) {
            return OUTSIDE;
        }
        if (n == 0) {
            firstImage.become(flock);
            firstKept = true;
        } else {
            secondImage.become(flock);
            secondKept = true;
        }
        return 1;
    }

    public int restore(int n) {
        if (n < 0 || n > 1) {
            return OUTSIDE;
        }
        boolean kept = n == 0 ? firstKept : secondKept;
        if (!kept) {
            return STATE;
        }
        if (n == 0) {
            flock.become(firstImage);
        } else {
            flock.become(secondImage);
        }
        return 1;
    }

    public int told(int what) {
        switch (what) {
            case 0:
                return pad.count;
            case 1:
                return flock.all;
            case 2:
                return flock.size;
            case 3:
                return flock.sightCount;
            default:
                if (what < OF_SWANS || !flock.has(what - OF_SWANS)) {
                    return OUTSIDE;
                }
                return Lines.numberAt(flock.numbers, what - OF_SWANS);
        }
    }

    // ---- what the calls share

    private static boolean isLesson(int lesson) {
        return lesson >= 0 && lesson < LESSONS;
    }

    private static boolean areLessons(int digits, int many) {
        if (digits < 0 || digits >= Digits.power(10, many)) {
            return false;
        }
        for (int k = 0; k < many; k++) {
            if (!isLesson(Digits.digit(digits, 10, k))) {
                return false;
            }
        }
        return true;
    }

    /** Why the DAY can not be DONE; if it can (NONE), the PAD tells the row BEHIND. */
    private int refusalOfDay() {
        if (pad.firstFault() != NONE) {
            return NO;
        }
        if (pad.gaps() > 0) {
            return STATE;
        }
        return pad.pass(flock.row, flock.size, 0) == NONE ? NONE : NO;
    }

    private Routes routesOfNow() {
        if (routes == null) {
            routes = new Routes();
        }
        routes.prepare(flock.size);
        return routes;
    }

    private int rowBehindPikes(int fill, int m) {
        int row = flock.row;
        for (int k = 0; k < m; k++) {
            row = Rows.pike(row, Digits.digit(fill, flock.size, k), flock.size);
        }
        return row;
    }

    private static int rowBehindDraw(int row, int size, int x) {
        if (size < 1) {
            return row;
        }
        int place = x / 2 % size;
        return x % 2 == 0 ? Rows.bread(row, place) : Rows.pike(row, place, size);
    }

    /** The sorts of EVENTS, in the order in which a PLAN tries them. */
    private static final class Sorts {
        static final int BREAD = 0, PIKE = 1, RAIN = 2, GUST = 3, SOLD = 4;
        static final int NO_SORT = -1;
        /** Those that a PLAN may use. */
        static final int PLANNED = 4;

        static int ofSign(int sign) {
            switch (sign) {
                case 'b':
                    return BREAD;
                case 'p':
                    return PIKE;
                case 'r':
                    return RAIN;
                case 'g':
                    return GUST;
                case 'x':
                    return SOLD;
                default:
                    return NO_SORT;
            }
        }

        /** At how many PLACES, from 0 on, such an EVENT can be (RAIN: 1, for its 0). */
        static int places(int sort, int size) {
            switch (sort) {
                case BREAD:
                case PIKE:
                    return size;
                case RAIN:
                    return 1;
                case GUST:
                    return size - 1;
                case SOLD:
                    return size > 1 ? size : 0;
                default:
                    return 0;
            }
        }
    }

    /** Rows: three bits a PLACE, the first one lowest, nothing above the last one. */
    private static final class Rows {
        private static final int WIDTH = 3;
        private static final int MASK = 7;

        static int first(int size) {
            int row = 0;
            for (int place = 0; place < size; place++) {
                row |= place << WIDTH * place;
            }
            return row;
        }

        static int who(int row, int place) {
            return (row >> WIDTH * place) & MASK;
        }

        static int bread(int row, int place) {
            int ahead = row & ((1 << WIDTH * place) - 1);
            int beyond = row >> WIDTH * (place + 1);
            return (beyond << WIDTH * (place + 1)) | (ahead << WIDTH) | who(row, place);
        }

        static int pike(int row, int place, int size) {
            return sold(row, place) | (who(row, place) << WIDTH * (size - 1));
        }

        static int rain(int row, int size) {
            int turned = 0;
            for (int place = 0; place < size; place++) {
                turned = (turned << WIDTH) | who(row, place);
            }
            return turned;
        }

        static int gust(int row, int place) {
            int both = who(row, place) ^ who(row, place + 1);
            return row ^ (both << WIDTH * place) ^ (both << WIDTH * (place + 1));
        }

        static int sold(int row, int place) {
            int ahead = row & ((1 << WIDTH * place) - 1);
            int beyond = row >> WIDTH * (place + 1);
            return ahead | (beyond << WIDTH * place);
        }

        static int behindEvent(int row, int size, int sort, int place) {
            switch (sort) {
                case Sorts.BREAD:
                    return bread(row, place);
                case Sorts.PIKE:
                    return pike(row, place, size);
                case Sorts.RAIN:
                    return rain(row, size);
                case Sorts.GUST:
                    return gust(row, place);
                case Sorts.SOLD:
                    return sold(row, place);
                default:
                    return row;
            }
        }
    }

    /** The PAD: signs, and the DAY that they tell, tried while THE ROW itself stays as it is. */
    private static final class Pad {
        static final int LEAST_SIGN = 33;
        static final int MOST_SIGN = 126;
        private static final int MOST_SIGNS = 60;
        private static final int MOST_GAPS = 3;
        private static final int GAP = '?';

        private final int[] signs = new int[MOST_SIGNS];
        int count = 0;
        /** Where the DAY led that was last tried. */
        int rowBehind = 0;
        int sizeBehind = 0;

        boolean add(int sign) {
            if (count < 0 || count >= signs.length) {
                return false;
            }
            signs[count] = sign;
            count++;
            return true;
        }

        private int signAt(int i) {
            return i >= 0 && i < count && i < signs.length ? signs[i] : 0;
        }

        int firstFault() {
            int gaps = 0;
            int open = Sorts.NO_SORT;
            for (int i = 0; i < count; i++) {
                int sign = signAt(i);
                if (open == Sorts.NO_SORT) {
                    open = Sorts.ofSign(sign);
                    if (open == Sorts.NO_SORT) {
                        return i;
                    }
                    open = open == Sorts.RAIN ? Sorts.NO_SORT : open;
                } else {
                    gaps += sign == GAP ? 1 : 0;
                    boolean gapStands = sign == GAP && open != Sorts.SOLD && gaps <= MOST_GAPS;
                    if (!gapStands && (sign < '0' || sign > '9')) {
                        return i;
                    }
                    open = Sorts.NO_SORT;
                }
            }
            return open == Sorts.NO_SORT ? NONE : count;
        }

        int gaps() {
            int many = 0;
            for (int i = 0; i < count; i++) {
                many += signAt(i) == GAP ? 1 : 0;
            }
            return many;
        }

        int events() {
            int many = 0;
            for (int i = 0; i < count; i++) {
                many += Sorts.ofSign(signAt(i)) != Sorts.NO_SORT ? 1 : 0;
            }
            return many;
        }

        /**
         * Tries the DAY (one without FAULT) from this row on, up to the first EVENT that
         * can not be, which it answers, or NONE. What stands for the gaps are the digits
         * of fill to the base size.
         */
        int pass(int row, int size, int fill) {
            rowBehind = row;
            sizeBehind = size;
            int gapsLeft = gaps();
            int event = 0;
            for (int i = 0; i < count; i++) {
                int sort = Sorts.ofSign(signAt(i));
                int place = 0;
                if (sort != Sorts.RAIN) {
                    i++;
                    place = signAt(i) - '0';
                    if (signAt(i) == GAP) {
                        gapsLeft--;
                        place = Digits.digit(fill, size, gapsLeft);
                    }
                }
                if (!couldBe(sort, place)) {
                    return event;
                }
                event++;
            }
            return NONE;
        }

        private boolean couldBe(int sort, int place) {
            if (place < 0 || place >= Sorts.places(sort, sizeBehind)) {
                return false;
            }
            rowBehind = Rows.behindEvent(rowBehind, sizeBehind, sort, place);
            sizeBehind -= sort == Sorts.SOLD ? 1 : 0;
            return true;
        }
    }

    /** Small sums on whole numbers. */
    private static final class Digits {
        static int power(int base, int many) {
            int product = 1;
            for (int k = 0; k < many; k++) {
                product *= base;
            }
            return product;
        }

        /** The k-th digit by base, from the lowest (0) on. */
        static int digit(int value, int base, int k) {
            if (base < 1) {
                return 0;
            }
            int rest = value;
            for (int j = 0; j < k; j++) {
                rest /= base;
            }
            return rest % base;
        }

        /** Of two from 0 on, that are 343 at most; the greater one halves in two rounds. */
        static int commonDivisor(int a, int b) {
            int greater = b;
            int less = a;
            for (int round = 0; round < 64 && less > 0; round++) {
                int rest = greater % less;
                greater = less;
                less = rest;
            }
            return greater;
        }

        /** Of a NUMBER: one up to 99 that is no prime has a divisor below 10. */
        static boolean isPrime(int v) {
            for (int d = 2; d < 10; d++) {
                if (v > d && v % d == 0) {
                    return false;
                }
            }
            return v >= 2;
        }

        /** Of what three NUMBERS come to: 297 at most, which is below the square of 18. */
        static boolean isSquare(int v) {
            for (int root = 0; root < 18; root++) {
                if (root * root == v) {
                    return true;
                }
            }
            return false;
        }
    }

    /** Lines: NUMBERS by PLACE (or by SWAN), eight bits each, the first one lowest. */
    private static final class Lines {
        private static final int WIDTH = 8;
        private static final long MASK = 255;

        /** 1, 2, 3 and so on. */
        static long first(int size) {
            long line = 0;
            for (int k = 0; k < size; k++) {
                line |= (long) (k + 1) << WIDTH * k;
            }
            return line;
        }

        static int numberAt(long line, int k) {
            return (int) ((line >> WIDTH * k) & MASK);
        }

        static long with(long line, int k, int v) {
            return (line & ~(MASK << WIDTH * k)) | ((long) v << WIDTH * k);
        }

        /** The numbers of those whom the row names, in its order. */
        static long inOrder(long numbers, int row, int size) {
            long line = 0;
            for (int place = 0; place < size; place++) {
                line |= (long) numberAt(numbers, Rows.who(row, place)) << WIDTH * place;
            }
            return line;
        }

        static int sum(long line, int from, int to) {
            int sum = 0;
            for (int place = from; place < to; place++) {
                sum += numberAt(line, place);
            }
            return sum;
        }

        static int stretches(long line, int size, int sum) {
            int many = 0;
            for (int from = 0; from < size; from++) {
                for (int to = from + 1; to <= size; to++) {
                    many += sum(line, from, to) == sum ? 1 : 0;
                }
            }
            return many;
        }

        static int firstStretch(long line, int size, int sum) {
            for (int from = 0; from < size; from++) {
                for (int to = from + 1; to <= size; to++) {
                    if (sum(line, from, to) == sum) {
                        return from;
                    }
                }
            }
            return NONE;
        }

        static int shortestStretch(long line, int size, int sum) {
            for (int length = 1; length <= size; length++) {
                for (int from = 0; from + length <= size; from++) {
                    if (sum(line, from, from + length) == sum) {
                        return length;
                    }
                }
            }
            return NONE;
        }

        static int longestRise(long line, int size) {
            int longest = 1;
            int length = 1;
            for (int place = 1; place < size; place++) {
                length = numberAt(line, place) > numberAt(line, place - 1) ? length + 1 : 1;
                longest = Math.max(longest, length);
            }
            return longest;
        }

        /** By how much the one who takes next comes out ahead; each round is one SWAN shorter. */
        private static int lead(long line, int size) {
            if (size < 1 || size > MOST_SWANS) {
                return 0;
            }
            return Math.max(leadByFirst(line, size), leadByLast(line, size));
        }

        private static int leadByFirst(long line, int size) {
            return numberAt(line, 0) - lead(line >> WIDTH, size - 1);
        }

        private static int leadByLast(long line, int size) {
            return numberAt(line, size - 1) - lead(line, size - 1);
        }
    }

    /** Which LESSONS a line of NUMBERS teaches. */
    private static final class Lessons {
        static int asBits(long line, int size) {
            int bits = 0;
            for (int lesson = 0; lesson < LESSONS; lesson++) {
                bits |= teach(lesson, line, size) ? 1 << lesson : 0;
            }
            return bits;
        }

        static boolean teach(int lesson, long line, int size) {
            switch (lesson) {
                case 0:
                    return Lines.longestRise(line, size) == size;
                case 1:
                    return evenAheadOfOdd(line, size);
                case 2:
                    return Digits.isPrime(Lines.numberAt(line, 0));
                case 3:
                    return Digits.isSquare(Lines.sum(line, 0, Math.min(3, size)));
                case 4:
                    return evenAndOddByTurns(line, size);
                case 5:
                    return oneTimesTheOther(line, size);
                case 6:
                    return Lines.sum(line, 0, size / 2) == Lines.sum(line, size / 2, size);
                default:
                    return false;
            }
        }

        private static boolean evenAheadOfOdd(long line, int size) {
            for (int place = 1; place < size; place++) {
                if (Lines.numberAt(line, place - 1) % 2 == 1 && Lines.numberAt(line, place) % 2 == 0) {
                    return false;
                }
            }
            return true;
        }

        private static boolean evenAndOddByTurns(long line, int size) {
            for (int place = 1; place < size; place++) {
                if (Lines.numberAt(line, place - 1) % 2 == Lines.numberAt(line, place) % 2) {
                    return false;
                }
            }
            return true;
        }

        private static boolean oneTimesTheOther(long line, int size) {
            for (int place = 1; place < size; place++) {
                int a = Lines.numberAt(line, place - 1);
                int b = Lines.numberAt(line, place);
                if (!isSomeTimes(a, b) && !isSomeTimes(b, a)) {
                    return false;
                }
            }
            return true;
        }

        private static boolean isSomeTimes(int product, int of) {
            return product == 0 || of > 0 && product % of == 0;
        }
    }

    /** All that an IMAGE keeps: the SWANS, THE ROW and the SIGHTS. */
    private static final class Flock {
        private static final int MOST_SIGHTS = 6;
        private static final int SIGHT_WIDTH = 6;
        private static final int SIGHT_MASK = 63;

        /** How many SWANS, SOLD ones too. */
        int all = 0;
        long numbers = 0;
        int row = 0;
        /** How many are in THE ROW. */
        int size = 0;
        /** Six bits a SIGHT: eight times the SWAN and its PLACE. */
        private long sights = 0;
        int sightCount = 0;

        void begin(int many) {
            all = many;
            numbers = Lines.first(many);
            row = Rows.first(many);
            size = many;
            dropSights();
        }

        void become(Flock other) {
            if (other == null) {
                return;
            }
            all = other.all;
            numbers = other.numbers;
            row = other.row;
            size = other.size;
            sights = other.sights;
            sightCount = other.sightCount;
        }

        boolean has(int swan) {
            return swan >= 0 && swan < all;
        }

        /** -1 if there is no such SWAN, or it is SOLD. */
        int placeOf(int swan) {
            for (int place = 0; place < size; place++) {
                if (Rows.who(row, place) == swan) {
                    return place;
                }
            }
            return -1;
        }

        long line() {
            return Lines.inOrder(numbers, row, size);
        }

        void dropSights() {
            sights = 0;
            sightCount = 0;
        }

        boolean addSight(int swan, int place) {
            if (sightCount >= MOST_SIGHTS) {
                return false;
            }
            sights |= (long) (8 * swan + place) << SIGHT_WIDTH * sightCount;
            sightCount++;
            return true;
        }

        boolean sightsHold(int rowBehind, int sizeBehind) {
            for (int k = 0; k < sightCount; k++) {
                int sight = (int) (sights >> SIGHT_WIDTH * k) & SIGHT_MASK;
                int place = sight % 8;
                if (place >= sizeBehind || Rows.who(rowBehind, place) != sight / 8) {
                    return false;
                }
            }
            return true;
        }
    }

    /**
     * All orders to which EVENTS lead, told by the PLACES of now: nearest first, and of
     * those as near in the order of their first rows of EVENTS. They depend on nothing
     * but how many there are, so that they are kept for the next call.
     */
    private static final class Routes {
        private static final int MOST_ROWS = 5040;
        /** A row's first six PLACES: they tell the seventh. */
        private static final int KEY_MASK = (1 << 18) - 1;
        private static final int KEYS_A_MARK = 16;
        private static final int ROW_WIDTH = 21;
        private static final int STAGE_WIDTH = 3;
        private static final int CODE_WIDTH = 6;

        private final int[] rows = new int[MOST_ROWS];
        /** By row: the one it is reached from, and (low bits) the EVENT that leads on. */
        private final int[] links = new int[MOST_ROWS];
        private int count = 0;
        private int size = 0;
        /** By key four bits: 1 and the furthest stage at which it has been reached. */
        private final long[] marks = new long[(KEY_MASK + 1) / KEYS_A_MARK];
        private final int[] queue = new int[MOST_ROWS * MOST_LESSONS_A_WEEK];
        private int queued = 0;

        void prepare(int sizeNow) {
            if (size == sizeNow) {
                return;
            }
            size = sizeNow;
            count = 0;
            Arrays.fill(marks, 0L);
            addRow(Rows.first(size), 0);
            for (int head = 0; head < count && head < MOST_ROWS; head++) {
                addRowsBehind(head);
            }
        }

        int firstTaught(int lesson, long line) {
            for (int k = 0; k < count; k++) {
                if (Lessons.teach(lesson, Lines.inOrder(line, rowAt(k), size), size)) {
                    return k;
                }
            }
            return -1;
        }

        int length(int k) {
            int many = 0;
            int at = k;
            while (at > 0 && many < MOST_ROWS) {
                at = linkAt(at) >> CODE_WIDTH;
                many++;
            }
            return many;
        }

        /** The EVENT on the way to row k, counted from the way's end. */
        int event(int k, int fromEnd) {
            int at = k;
            for (int step = 0; step < fromEnd; step++) {
                at = linkAt(at) >> CODE_WIDTH;
            }
            return linkAt(at) & ((1 << CODE_WIDTH) - 1);
        }

        private int rowAt(int k) {
            return k >= 0 && k < rows.length ? rows[k] : 0;
        }

        private int linkAt(int k) {
            return k >= 0 && k < links.length ? links[k] : 0;
        }

        private void addRowsBehind(int head) {
            int row = rowAt(head);
            for (int sort = 0; sort < Sorts.PLANNED; sort++) {
                int places = Sorts.places(sort, size);
                for (int place = 0; place < places; place++) {
                    addRow(Rows.behindEvent(row, size, sort, place), (head << CODE_WIDTH) | (10 * sort + place));
                }
            }
        }

        private void addRow(int row, int link) {
            if (count >= 0 && count < rows.length && count < links.length && raise(row, 1)) {
                rows[count] = row;
                links[count] = link;
                count++;
            }
        }

        /** Marks the row if it was never reached at this level or above, and tells whether so. */
        private boolean raise(int row, int level) {
            int key = row & KEY_MASK;
            int slot = key / KEYS_A_MARK;
            int shift = key % KEYS_A_MARK * 4;
            if (slot < 0 || slot >= marks.length) {
                return false;
            }
            long before = (marks[slot] >> shift) & 15L;
            if (before >= level) {
                return false;
            }
            marks[slot] += (level - before) << shift;
            return true;
        }

        /**
         * A search by breadth over rows and stages (how many LESSONS are behind). A stage
         * is left as soon as its LESSON is TAUGHT, and a row is looked at again only if
         * more LESSONS are behind there than before: to be further on is never worse.
         */
        int fewestInTurn(int lessons, int many, long line) {
            if (!eachCanBe(lessons, many, line)) {
                return NONE;
            }
            Arrays.fill(marks, 0L);
            queued = 0;
            int start = Rows.first(size);
            int stage = stageAt(start, 0, lessons, many, line);
            if (stage >= many) {
                return 0;
            }
            raise(start, stage + 1);
            enqueue(start, stage, 0);
            for (int head = 0; head < queued && head < queue.length; head++) {
                int fewest = lookBehind(queue[head], lessons, many, line);
                if (fewest >= 0) {
                    return fewest;
                }
            }
            return NONE;
        }

        private boolean eachCanBe(int lessons, int many, long line) {
            for (int k = 0; k < many; k++) {
                if (firstTaught(Digits.digit(lessons, 10, k), line) < 0) {
                    return false;
                }
            }
            return true;
        }

        /** How many LESSONS are behind at a row, if so many were on the way to it. */
        private int stageAt(int row, int from, int lessons, int many, long line) {
            long there = Lines.inOrder(line, row, size);
            int stage = from;
            while (stage < many && Lessons.teach(Digits.digit(lessons, 10, many - 1 - stage), there, size)) {
                stage++;
            }
            return stage;
        }

        private void enqueue(int row, int stage, int depth) {
            if (queued >= 0 && queued < queue.length) {
                queue[queued] = (((depth << STAGE_WIDTH) | stage) << ROW_WIDTH) | row;
                queued++;
            }
        }

        /** How many EVENTS the week takes, if one more behind this entry ends it, or -1. */
        private int lookBehind(int entry, int lessons, int many, long line) {
            int row = entry & ((1 << ROW_WIDTH) - 1);
            int stage = (entry >> ROW_WIDTH) & ((1 << STAGE_WIDTH) - 1);
            int depth = (entry >> (ROW_WIDTH + STAGE_WIDTH)) + 1;
            for (int sort = 0; sort < Sorts.PLANNED; sort++) {
                int places = Sorts.places(sort, size);
                for (int place = 0; place < places; place++) {
                    int next = Rows.behindEvent(row, size, sort, place);
                    if (!raise(next, stage + 1)) {
                        continue;
                    }
                    int reached = stageAt(next, stage, lessons, many, line);
                    if (reached >= many) {
                        return depth;
                    }
                    raise(next, reached + 1);
                    enqueue(next, reached, depth);
                }
            }
            return -1;
        }
    }
}
