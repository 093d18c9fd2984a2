/**
 * How refused calls answer: each in many states, with the first refusal that fits; and
 * that they change nothing. For that two objects are brought to the same state, the call
 * is made on one of them, and both must tell the same of themselves then.
 */
public final class RefusalsTest {
    private static final int UNKNOWN = Given.UNKNOWN, OUTSIDE = Given.OUTSIDE, NO = Given.NO;
    private static final int STATE = Given.STATE, FULL = Given.FULL;
    private static final int[] FAR = {Given.LEAST, -1000, 1000, Given.MOST};
    private static final String[] ANY = {"new", "one", "seven", "some sold", "one left", "kept", "fault", "more must come",
        "gap", "gap, can not be", "gap, fault", "can not be", "last one sold", "full", "full, fault"};
    private static final String[] FAULT = {"fault", "more must come", "gap, fault", "full, fault"};
    private static final String[] GAP = {"gap", "gap, can not be"};
    private static final String[] CAN_NOT_BE = {"can not be", "last one sold"};
    private static final String[] FULL_ONES = {"full", "full, fault"};

    public static void main(String[] args) {
        swansAndNumbers();
        signs();
        days();
        noons();
        plans();
        worn();
        sights();
        chances();
        images();
        asking();
        Check.end("RefusalsTest");
    }

    private static SwanSums in(String state) {
        switch (state) {
            case "new":
                return new SwanSums();
            case "one":
                return Given.numbers(0);
            case "seven":
                return Given.day(Given.numbers(99, 0, 7, 14, 14, 1, 50), "b6p0g5r");
            case "some sold":
                return Given.day(sighted(Given.done(Given.numbers(9, 3, 0, 5, 7, 2), "rx1x3"), 2), "b1p0");
            case "one left":
                return Given.done(Given.swans(3), "x0x1");
            case "kept":
                return kept(sighted(Given.numbers(4, 2, 1), 3));
            case "fault":
                return Given.day(new SwanSums(), "b1z");
            case "more must come":
                return Given.day(new SwanSums(), "b9b");
            case "gap":
                return Given.day(sighted(Given.swans(3), 1), "b?rg?");
            case "gap, can not be":
                return Given.day(new SwanSums(), "b9b?");
            case "gap, fault":
                return Given.day(new SwanSums(), "b?b?b?b?");
            case "can not be":
                return Given.day(new SwanSums(), "rb4");
            case "last one sold":
                return Given.day(Given.swans(2), "x0rx0");
            case "full":
                return Given.day(sighted(kept(Given.swans(5)), 6), "rr".repeat(29) + "b4");
            default:
                return Given.day(sighted(kept(Given.swans(4)), 6), "r".repeat(59) + "!");
        }
    }

    private static SwanSums sighted(SwanSums x, int many) {
        for (int k = 0; k < many; k++) {
            x.seen(k % x.told(1), k % x.told(1));
        }
        return x;
    }

    private static SwanSums kept(SwanSums x) {
        x.image(0);
        x.number(0, 77);
        x.image(1);
        x.number(0, 1);
        return x;
    }

    private static void refused(String call, long want, String[] states, Given.Ask ask) {
        for (String state : states) {
            SwanSums x = in(state);
            Check.due(call + ", " + state, ask.of(x), want);
            Check.due("the whole behind " + call + ", " + state, Given.whole(x), Given.whole(in(state)));
        }
    }

    private static void swansAndNumbers() {
        Check.of("swans, number are refused");
        for (int n : new int[] {-1, 0, 8}) {
            refused("swans(" + n + ")", OUTSIDE, ANY, x -> x.swans(n));
        }
        for (int far : FAR) {
            refused("swans(" + far + ")", OUTSIDE, ANY, x -> x.swans(far));
            refused("number(" + far + ", 5)", UNKNOWN, ANY, x -> x.number(far, 5));
            refused("number(0, " + far + ")", OUTSIDE, ANY, x -> x.number(0, far));
            refused("number(" + far + ", 100)", UNKNOWN, ANY, x -> x.number(far, 100));
        }
        refused("number(-1, 5)", UNKNOWN, ANY, x -> x.number(-1, 5));
        refused("number beyond the last", UNKNOWN, ANY, x -> x.number(x.told(1), 5));
        refused("number(0, -1)", OUTSIDE, ANY, x -> x.number(0, -1));
        refused("number(0, 100)", OUTSIDE, ANY, x -> x.number(0, 100));
        refused("number of the last, 100", OUTSIDE, ANY, x -> x.number(x.told(1) - 1, 100));
        refused("number beyond the last, 100", UNKNOWN, ANY, x -> x.number(x.told(1), 100));
        refused("number(-1, -1)", UNKNOWN, ANY, x -> x.number(-1, -1));
    }

    private static void signs() {
        Check.of("say is refused");
        for (int sign : new int[] {Given.LEAST, -1, 0, 32, 127, Given.MOST}) {
            refused("say(" + sign + ")", OUTSIDE, ANY, x -> x.say(sign));
        }
        for (int sign : new int[] {33, '0', '?', 'r', 'x', 126}) {
            refused("say(" + sign + ")", FULL, FULL_ONES, x -> x.say(sign));
        }
    }

    private static void days() {
        Check.of("judge, done, behind, taught, filled are refused");
        refused("judge()", NO, FAULT, x -> x.judge());
        refused("judge()", STATE, GAP, x -> x.judge());
        refused("done()", NO, FAULT, x -> x.done());
        refused("done()", NO, CAN_NOT_BE, x -> x.done());
        refused("done()", STATE, GAP, x -> x.done());
        for (int place : new int[] {Given.LEAST, -2, -1, 0, 3, 7, Given.MOST}) {
            refused("behind(" + place + ")", NO, FAULT, x -> x.behind(place));
            refused("behind(" + place + ")", NO, CAN_NOT_BE, x -> x.behind(place));
            refused("behind(" + place + ")", STATE, GAP, x -> x.behind(place));
            refused("filled(" + place + ")", NO, FAULT, x -> x.filled(place));
        }
        refused("taught(1)", NO, FAULT, x -> x.taught(1));
        refused("taught(1)", NO, CAN_NOT_BE, x -> x.taught(1));
        refused("taught(1)", STATE, GAP, x -> x.taught(1));
        for (int what : new int[] {Given.LEAST, -1, 2, Given.MOST}) {
            refused("taught(" + what + ")", OUTSIDE, ANY, x -> x.taught(what));
        }
    }

    private static void noons() {
        Check.of("at, read, told are refused");
        for (int far : FAR) {
            refused("at(" + far + ")", UNKNOWN, ANY, x -> x.at(far));
            refused("read(" + far + ", 0)", OUTSIDE, ANY, x -> x.read(far, 0));
            refused("read(0, " + far + ")", OUTSIDE, ANY, x -> x.read(0, far));
            refused("told(" + far + ")", OUTSIDE, ANY, x -> x.told(far));
        }
        refused("at(-1)", UNKNOWN, ANY, x -> x.at(-1));
        refused("at beyond the last", UNKNOWN, ANY, x -> x.at(x.told(2)));
        refused("read(694, 0)", OUTSIDE, ANY, x -> x.read(694, 0));
        refused("read(-1, 1)", OUTSIDE, ANY, x -> x.read(-1, 1));
        refused("read(0, 3)", OUTSIDE, ANY, x -> x.read(0, 3));
        refused("read(0, -1)", OUTSIDE, ANY, x -> x.read(0, -1));
        refused("read(694, 3)", OUTSIDE, ANY, x -> x.read(694, 3));
        for (int what : new int[] {-1, 4, 9}) {
            refused("told(" + what + ")", OUTSIDE, ANY, x -> x.told(what));
        }
        refused("told beyond the last SWAN", OUTSIDE, ANY, x -> x.told(10 + x.told(1)));
    }

    private static void plans() {
        Check.of("plan, week, sell, rivals are refused");
        for (int lesson : new int[] {Given.LEAST, -1, 7, Given.MOST}) {
            refused("plan(" + lesson + ", -1)", OUTSIDE, ANY, x -> x.plan(lesson, -1));
            refused("plan(" + lesson + ", -2)", OUTSIDE, ANY, x -> x.plan(lesson, -2));
            refused("sell(" + lesson + ")", OUTSIDE, ANY, x -> x.sell(lesson));
        }
        for (int what : new int[] {Given.LEAST, -1, 2, Given.MOST}) {
            refused("rivals(" + what + ")", OUTSIDE, ANY, x -> x.rivals(what));
        }
        int[][] weeks = {{0, 0}, {0, 5}, {0, -1}, {0, Given.MOST}, {0, Given.LEAST}, {-1, 1}, {-1, 4}, {10, 1}, {100, 2},
            {1000, 3}, {10000, 4}, {7, 1}, {70, 2}, {700, 3}, {7000, 4}, {9, 4}, {Given.MOST, 4}, {Given.LEAST, 4},
            {247, 3}, {724, 3}};
        for (int[] week : weeks) {
            refused("week(" + week[0] + ", " + week[1] + ")", OUTSIDE, ANY, x -> x.week(week[0], week[1]));
        }
    }

    private static void worn() {
        Check.of("worn is refused");
        for (int swan : new int[] {Given.LEAST, -1, 7, Given.MOST}) {
            refused("worn(" + swan + ", 0, 0)", UNKNOWN, ANY, x -> x.worn(swan, 0, 0));
            refused("worn(" + swan + ", 7, 3)", UNKNOWN, ANY, x -> x.worn(swan, 7, 3));
        }
        refused("worn beyond the last", UNKNOWN, ANY, x -> x.worn(x.told(1), 0, 0));
        for (int what : new int[] {-1, 0, 2, 3}) {
            refused("worn of who is SOLD, what " + what, UNKNOWN, new String[] {"some sold"}, x -> x.worn(4, 0, what));
            refused("worn of who is SOLD, what " + what, UNKNOWN, new String[] {"one left"}, x -> x.worn(2, 0, what));
        }
        for (int wrong : new int[] {Given.LEAST, -1, 7, Given.MOST}) {
            refused("worn of the first, LESSON " + wrong, OUTSIDE, ANY, x -> x.worn(x.at(0), wrong, 0));
            refused("worn of the first, what " + wrong, OUTSIDE, ANY, x -> x.worn(x.at(0), 0, wrong));
        }
        refused("worn of the first, what 3", OUTSIDE, ANY, x -> x.worn(x.at(0), 0, 3));
    }

    private static void sights() {
        Check.of("seen is refused");
        for (int wrong : new int[] {Given.LEAST, -1, 7, Given.MOST}) {
            refused("seen(" + wrong + ", 0)", UNKNOWN, ANY, x -> x.seen(wrong, 0));
            refused("seen(" + wrong + ", " + wrong + ")", UNKNOWN, ANY, x -> x.seen(wrong, wrong));
            refused("seen(0, " + wrong + ")", OUTSIDE, ANY, x -> x.seen(0, wrong));
        }
        refused("seen beyond the last", UNKNOWN, ANY, x -> x.seen(x.told(1), 0));
        refused("seen(0, 0)", FULL, FULL_ONES, x -> x.seen(0, 0));
        refused("seen(3, 6)", FULL, FULL_ONES, x -> x.seen(3, 6));
    }

    private static void chances() {
        Check.of("pikes, year are refused");
        long lost = Given.LOST + OUTSIDE;
        for (int wrong : new int[] {Given.LEAST, -1, 7, Given.MOST}) {
            refused("pikes(" + wrong + ", 0, 0)", lost, ANY, x -> x.pikes(wrong, 0, 0));
            refused("pikes(0, " + wrong + ", 0)", lost, ANY, x -> x.pikes(0, wrong, 0));
            refused("pikes(0, 0, " + wrong + ")", lost, ANY, x -> x.pikes(0, 0, wrong));
            refused("year(0, 1, " + wrong + ")", OUTSIDE, ANY, x -> x.year(0, 1, wrong));
        }
        refused("pikes(0, 4, 1)", lost, ANY, x -> x.pikes(0, 4, 1));
        refused("pikes(0, 0, 2)", lost, ANY, x -> x.pikes(0, 0, 2));
        for (int seed : new int[] {Given.LEAST, -1, 10000, Given.MOST}) {
            refused("year(" + seed + ", 1, 0)", OUTSIDE, ANY, x -> x.year(seed, 1, 0));
        }
        for (int m : new int[] {Given.LEAST, -1, 0, 100, Given.MOST}) {
            refused("year(0, " + m + ", 0)", OUTSIDE, ANY, x -> x.year(0, m, 0));
        }
        refused("year(0, 1, 9)", OUTSIDE, ANY, x -> x.year(0, 1, 9));
        refused("year beyond the last SWAN", OUTSIDE, ANY, x -> x.year(0, 1, 10 + x.told(1)));
    }

    private static void images() {
        Check.of("image, restore are refused");
        String[] never = {"new", "one", "seven", "some sold", "one left", "fault", "gap", "can not be"};
        for (int n : new int[] {Given.LEAST, -1, 2, Given.MOST}) {
            refused("image(" + n + ")", OUTSIDE, ANY, x -> x.image(n));
            refused("restore(" + n + ")", OUTSIDE, ANY, x -> x.restore(n));
        }
        refused("restore(0)", STATE, never, x -> x.restore(0));
        refused("restore(1)", STATE, never, x -> x.restore(1));
    }

    private static void asks(String call, Given.Ask ask) {
        for (String state : ANY) {
            SwanSums x = in(state);
            long first = ask.of(x);
            Check.due(call + " again, " + state, ask.of(x), first);
            Check.due("the whole behind " + call + ", " + state, Given.whole(x), Given.whole(in(state)));
        }
    }

    /** Calls that ask change nothing, whatever they answer. */
    private static void asking() {
        Check.of("calls that ask change nothing");
        asks("fault()", x -> x.fault());
        asks("judge()", x -> x.judge());
        asks("longest()", x -> x.longest());
        for (int k = -2; k <= 7; k++) {
            int i = k;
            asks("at(" + i + ")", x -> x.at(i));
            asks("behind(" + i + ")", x -> x.behind(i));
            asks("filled(" + i + ")", x -> x.filled(i));
            asks("taught(" + i + ")", x -> x.taught(i));
            asks("sell(" + i + ")", x -> x.sell(i));
            asks("rivals(" + i + ")", x -> x.rivals(i));
            asks("worn(" + i + ", 0, 0)", x -> x.worn(i, 0, 0));
            asks("worn(0, " + i + ", 1)", x -> x.worn(0, i, 1));
            asks("worn(0, 3, " + i + ")", x -> x.worn(0, 3, i));
            asks("pikes(" + i + ", 3, 0)", x -> x.pikes(i, 3, 0));
            asks("pikes(4, " + i + ", 1)", x -> x.pikes(4, i, 1));
            asks("year(77, 99, " + i + ")", x -> x.year(77, 99, i));
            asks("year(77, 99, 10 and " + i + ")", x -> x.year(77, 99, 10 + i));
            asks("told(" + i + ")", x -> x.told(i));
            asks("told(10 and " + i + ")", x -> x.told(10 + i));
            asks("read(" + i + ", 0)", x -> x.read(i, 0));
        }
        for (int lesson = 0; lesson < 7; lesson += 2) {
            int of = lesson;
            asks("plan(" + of + ", 0)", x -> x.plan(of, 0));
            asks("week(" + of + ", 2)", x -> x.week(of, 2));
        }
    }
}
