/** One method a promise: ordinary inputs, the edges that the document names, wrong inputs. */
public final class PromisesTest {
    private static final int NONE = -6, UNKNOWN = -1, OUTSIDE = -2, STATE = -3, FULL = -4, NO = -5;
    private static final long LOST = -1000000000000000000L;
    private static final int LEAST = Integer.MIN_VALUE, MOST = Integer.MAX_VALUE;

    public static void main(String[] args) {
        constants();
        aNewObject();
        swans();
        number();
        say();
        wipe();
        fault();
        judge();
        done();
        at();
        behind();
        taught();
        lessons();
        read();
        longest();
        plan();
        week();
        sell();
        worn();
        rivals();
        seen();
        forget();
        filled();
        pikes();
        year();
        image();
        restore();
        told();
        Check.end("PromisesTest");
    }

    private static void due(String call, long got, long want) {
        Check.due(call, got, want);
    }

    private static void rowIs(SwanSums x, String row) {
        due("told(2)", x.told(2), row.length());
        for (int place = 0; place < row.length(); place++) {
            due("at(" + place + ") of " + row, x.at(place), row.charAt(place) - '0');
        }
    }

    private static void behindIs(SwanSums x, String text, String row) {
        Given.day(x, text);
        due("behind(-1) of " + text, x.behind(-1), row.length());
        for (int place = 0; place < row.length(); place++) {
            due("behind(" + place + ") of " + text, x.behind(place), row.charAt(place) - '0');
        }
        due("behind of nobody", x.behind(row.length()), NONE);
    }

    private static void constants() {
        Check.of("constants");
        due("NONE", SwanSums.NONE, NONE);
        due("UNKNOWN", SwanSums.UNKNOWN, UNKNOWN);
        due("OUTSIDE", SwanSums.OUTSIDE, OUTSIDE);
        due("STATE", SwanSums.STATE, STATE);
        due("FULL", SwanSums.FULL, FULL);
        due("NO", SwanSums.NO, NO);
        due("LOST", SwanSums.LOST, LOST);
    }

    private static void aNewObject() {
        Check.of("1");
        SwanSums x = new SwanSums();
        due("told(0)", x.told(0), 0);
        due("told(1)", x.told(1), 4);
        due("told(2)", x.told(2), 4);
        due("told(3)", x.told(3), 0);
        for (int k = 0; k < 4; k++) {
            due("at", x.at(k), k);
            due("told of a number", x.told(10 + k), k + 1);
        }
        due("restore(0)", x.restore(0), STATE);
        due("restore(1)", x.restore(1), STATE);
    }

    private static void swans() {
        Check.of("2");
        SwanSums x = new SwanSums();
        due("swans(7)", x.swans(7), 4);
        due("told(1)", x.told(1), 7);
        x.number(6, 50);
        x.seen(6, 0);
        Given.day(x, "rx0");
        x.done();
        Given.day(x, "b5");
        due("swans(8)", x.swans(8), OUTSIDE);
        due("swans(0)", x.swans(0), OUTSIDE);
        due("swans(-1)", x.swans(-1), OUTSIDE);
        due("swans(MOST)", x.swans(MOST), OUTSIDE);
        due("swans(LEAST)", x.swans(LEAST), OUTSIDE);
        due("nothing changed, row", x.told(2), 6);
        due("nothing changed, number", x.told(16), 50);
        due("nothing changed, sights", x.told(3), 1);
        due("swans(7) of SOLD ones too", x.swans(7), 7);
        rowIs(x, "0123456");
        due("NUMBERS as at first", x.told(16), 7);
        due("SIGHTS go", x.told(3), 0);
        due("the PAD stays", x.told(0), 2);
        due("the PAD stays", x.behind(0), 5);
        due("swans(1)", x.swans(1), 7);
        rowIs(x, "0");
    }

    private static void number() {
        Check.of("3");
        SwanSums x = new SwanSums();
        due("number(0, 99)", x.number(0, 99), 1);
        due("number(0, 0)", x.number(0, 0), 99);
        due("number(3, 7)", x.number(3, 7), 4);
        due("number(3, 100)", x.number(3, 100), OUTSIDE);
        due("number(3, -1)", x.number(3, -1), OUTSIDE);
        due("number(3, LEAST)", x.number(3, LEAST), OUTSIDE);
        due("number(4, 1)", x.number(4, 1), UNKNOWN);
        due("number(-1, 1)", x.number(-1, 1), UNKNOWN);
        due("number(MOST, 1)", x.number(MOST, 1), UNKNOWN);
        due("UNKNOWN ahead of OUTSIDE", x.number(4, 100), UNKNOWN);
        due("told(13)", x.told(13), 7);
        due("told(12)", x.told(12), 3);
        Given.day(x, "x3");
        x.done();
        due("of a SOLD one", x.number(3, 5), 7);
        due("of a SOLD one", x.told(13), 5);
    }

    private static void say() {
        Check.of("4");
        SwanSums x = new SwanSums();
        due("say(33)", x.say(33), 1);
        due("say(126)", x.say(126), 2);
        due("say(32)", x.say(32), OUTSIDE);
        due("say(127)", x.say(127), OUTSIDE);
        due("say(LEAST)", x.say(LEAST), OUTSIDE);
        due("say(MOST)", x.say(MOST), OUTSIDE);
        for (int k = 3; k <= 60; k++) {
            due("say('r')", x.say('r'), k);
        }
        due("a 61st", x.say('r'), FULL);
        due("OUTSIDE ahead of FULL", x.say(32), OUTSIDE);
        due("told(0)", x.told(0), 60);
        x.wipe();
        for (int k = 1; k <= 60; k++) {
            x.say('r');
        }
        due("a DAY of 60 EVENTS", x.done(), 60);
        rowIs(x, "0123");
    }

    private static void wipe() {
        Check.of("5");
        SwanSums x = new SwanSums();
        due("wipe()", x.wipe(), 0);
        Given.day(x, "b3p?");
        due("wipe()", x.wipe(), 4);
        due("told(0)", x.told(0), 0);
        due("wipe()", x.wipe(), 0);
        due("a sign behind it", x.say('r'), 1);
        due("fault()", x.fault(), NONE);
    }

    private static void faultOf(String text, int want) {
        SwanSums x = Given.day(new SwanSums(), text);
        due("fault() of " + text, x.fault(), want);
        due("told(0)", x.told(0), text.length());
    }

    private static void fault() {
        Check.of("6");
        faultOf("", NONE);
        faultOf("b0p1rg2x3", NONE);
        faultOf("b9p9g9x9", NONE);
        faultOf("b", 1);
        faultOf("p", 1);
        faultOf("g", 1);
        faultOf("x", 1);
        faultOf("r", NONE);
        faultOf("r0", 1);
        faultOf("3", 0);
        faultOf("?", 0);
        faultOf("B0", 0);
        faultOf("b/", 1);
        faultOf("b:", 1);
        faultOf("bb", 1);
        faultOf("b0z", 2);
        faultOf("b?p?g?", NONE);
        faultOf("b?p?g?b?", 7);
        faultOf("b?p?g?b", 7);
        faultOf("b?p?g?x0r", NONE);
        faultOf("x?", 1);
        faultOf("b?x?", 3);
        faultOf("rb1rp", 5);
    }

    private static void judgeOf(String text, int want) {
        due("judge() of " + text, Given.day(new SwanSums(), text).judge(), want);
    }

    private static void judge() {
        Check.of("7");
        judgeOf("", NONE);
        judgeOf("b3", NONE);
        judgeOf("b4", 0);
        judgeOf("p3", NONE);
        judgeOf("p4", 0);
        judgeOf("rrp9", 2);
        judgeOf("g2", NONE);
        judgeOf("g3", 0);
        judgeOf("x3", NONE);
        judgeOf("x4", 0);
        judgeOf("x0b3", 1);
        judgeOf("x0g2", 1);
        judgeOf("x0x0x0", NONE);
        judgeOf("rx0x0x0x0", 4);
        judgeOf("b9x9", 0);
        judgeOf("b", NO);
        judgeOf("b?", STATE);
        judgeOf("b9b?", STATE);
        judgeOf("b?z", NO);
        SwanSums x = Given.day(new SwanSums(), "x3r");
        x.judge();
        rowIs(x, "0123");
        due("the PAD stays", x.told(0), 3);
    }

    private static void done() {
        Check.of("8");
        SwanSums x = new SwanSums();
        due("of nothing", x.done(), 0);
        due("b2", Given.day(x, "b2").done(), 1);
        rowIs(x, "2013");
        due("the PAD is empty", x.told(0), 0);
        due("p0rg1", Given.day(x, "p0rg1").done(), 3);
        rowIs(x, "2130");
        due("x1x1", Given.day(x, "x1x1").done(), 2);
        rowIs(x, "20");
        due("of all", x.told(1), 4);
        due("can not be", Given.day(x, "rb2").done(), NO);
        due("with a gap", Given.day(x, "b?").done(), STATE);
        due("with a gap and what can not be", Given.day(x, "b9b?").done(), STATE);
        due("with a gap and a FAULT", Given.day(x, "b?b").done(), NO);
        rowIs(x, "20");
        due("the PAD stays", x.told(0), 3);
        due("the last one", Given.day(x, "x0x0").done(), NO);
        due("the last but one", Given.day(x, "x1").done(), 1);
        rowIs(x, "2");
        due("BREAD of one", Given.day(x, "b0p0r").done(), 3);
        due("a GUST of one", Given.day(x, "g0").done(), NO);
        due("SOLD of one", Given.day(x, "x0").done(), NO);
    }

    private static void at() {
        Check.of("9");
        SwanSums x = new SwanSums();
        Given.day(x, "rx0").done();
        due("at(0)", x.at(0), 2);
        due("at(2)", x.at(2), 0);
        due("at(3)", x.at(3), UNKNOWN);
        due("at(-1)", x.at(-1), UNKNOWN);
        due("at(LEAST)", x.at(LEAST), UNKNOWN);
        due("at(MOST)", x.at(MOST), UNKNOWN);
        Given.day(x, "r");
        due("now, not BEHIND", x.at(0), 2);
    }

    private static void behind() {
        Check.of("10");
        SwanSums x = new SwanSums();
        behindIs(x, "", "0123");
        behindIs(x, "b2", "2013");
        behindIs(x, "p1", "0231");
        behindIs(x, "r", "3210");
        behindIs(x, "g1", "0213");
        behindIs(x, "x1", "023");
        behindIs(x, "b3p0x2rg0", "130");
        due("below -1", x.behind(-2), NONE);
        due("LEAST", x.behind(LEAST), NONE);
        due("MOST", x.behind(MOST), NONE);
        rowIs(x, "0123");
        due("can not be", Given.day(x, "b4").behind(-1), NO);
        due("a FAULT", Given.day(x, "b").behind(0), NO);
        due("a gap", Given.day(x, "b?").behind(-1), STATE);
        due("a gap, no such PLACE", x.behind(99), STATE);
        due("a gap and a FAULT", Given.day(x, "b?b").behind(0), NO);
        x.swans(7);
        behindIs(x, "b6", "6012345");
        behindIs(x, "p0", "1234560");
        behindIs(x, "p6", "0123456");
        behindIs(x, "b0", "0123456");
        behindIs(x, "g5", "0123465");
        behindIs(x, "r", "6543210");
        behindIs(x, "x6x0x2", "1245");
    }

    private static void taught() {
        Check.of("11");
        SwanSums x = new SwanSums();
        due("taught(0)", x.taught(0), 17);
        due("taught(1)", x.taught(1), 17);
        Given.day(x, "b3");
        due("taught(0)", x.taught(0), 17);
        due("taught(1)", x.taught(1), 80);
        due("taught(2)", x.taught(2), OUTSIDE);
        due("taught(-1)", x.taught(-1), OUTSIDE);
        due("a gap", Given.day(x, "b?").taught(1), STATE);
        due("a gap, now", x.taught(0), 17);
        due("OUTSIDE ahead of STATE", x.taught(2), OUTSIDE);
        due("a FAULT", Given.day(x, "b?b").taught(1), NO);
        due("can not be", Given.day(x, "b4").taught(1), NO);
        due("can not be, now", x.taught(0), 17);
        due("SOLD", Given.day(x, "x0x0x0").taught(1), 59);
    }

    private static void teaches(int lesson, boolean want, int... numbers) {
        SwanSums x = Given.numbers(numbers);
        due("lesson " + lesson + " of " + java.util.Arrays.toString(numbers), x.taught(0) >> lesson & 1, want ? 1 : 0);
    }

    private static void lessons() {
        Check.of("11, LESSONS");
        teaches(0, true, 0, 1, 5, 99);
        teaches(0, false, 0, 1, 1);
        teaches(0, false, 2, 1);
        teaches(0, true, 9);
        teaches(1, true, 4, 0, 2, 1, 3);
        teaches(1, true, 2, 2);
        teaches(1, true, 3, 1);
        teaches(1, false, 2, 3, 4);
        teaches(1, true, 7);
        for (int v = 0; v < 100; v++) {
            boolean prime = java.math.BigInteger.valueOf(v).isProbablePrime(30);
            teaches(2, prime, v, 4);
            int root = (int) Math.round(Math.sqrt(v));
            teaches(3, root * root == v, v);
        }
        teaches(3, true, 1, 2, 6, 50);
        teaches(3, false, 1, 2, 5, 1);
        teaches(3, true, 99, 99, 91, 3);
        teaches(3, true, 10, 15);
        teaches(3, true, 0, 0, 0, 2);
        teaches(4, true, 1, 2, 1, 0);
        teaches(4, false, 1, 2, 4);
        teaches(4, false, 3, 3);
        teaches(4, true, 5);
        teaches(5, true, 2, 4, 1, 99);
        teaches(5, true, 0, 0, 7, 0);
        teaches(5, true, 6, 3);
        teaches(5, true, 3, 3);
        teaches(5, false, 2, 4, 6);
        teaches(5, false, 2, 3);
        teaches(5, true, 5);
        teaches(6, true, 3, 1, 2);
        teaches(6, false, 3, 1, 4);
        teaches(6, true, 1, 5, 3, 2, 1);
        teaches(6, true, 4, 4);
        teaches(6, true, 0);
        teaches(6, false, 1);
        teaches(6, true, 10, 20, 30, 15, 15, 15, 15);
    }

    private static void readIs(SwanSums x, int sum, int many, int first, int shortest) {
        due("read(" + sum + ", 0)", x.read(sum, 0), many);
        due("read(" + sum + ", 1)", x.read(sum, 1), first);
        due("read(" + sum + ", 2)", x.read(sum, 2), shortest);
    }

    private static void read() {
        Check.of("12");
        SwanSums x = Given.numbers(3, 1, 2, 0, 3, 4);
        readIs(x, 3, 5, 0, 1);
        readIs(x, 7, 2, 3, 2);
        readIs(x, 0, 1, 3, 1);
        readIs(x, 13, 1, 0, 6);
        readIs(x, 8, 0, NONE, NONE);
        readIs(x, 6, 3, 0, 3);
        x = Given.numbers(99, 99, 99, 99, 99, 99, 99);
        readIs(x, 693, 1, 0, 7);
        readIs(x, 99, 7, 0, 1);
        due("read(694, 0)", x.read(694, 0), OUTSIDE);
        due("read(-1, 0)", x.read(-1, 0), OUTSIDE);
        due("read(0, 3)", x.read(0, 3), OUTSIDE);
        due("read(0, -1)", x.read(0, -1), OUTSIDE);
        due("read(LEAST, MOST)", x.read(LEAST, MOST), OUTSIDE);
        x = new SwanSums();
        Given.day(x, "x0r").done();
        readIs(x, 1, 0, NONE, NONE);
        readIs(x, 5, 1, 1, 2);
        readIs(x, 9, 1, 0, 3);
    }

    private static void longest() {
        Check.of("13");
        due("longest()", new SwanSums().longest(), 4);
        due("longest()", Given.numbers(1, 2, 2, 3, 4, 1, 9).longest(), 3);
        due("longest()", Given.numbers(5, 4, 3).longest(), 1);
        due("longest()", Given.numbers(5).longest(), 1);
        due("longest()", Given.numbers(3, 3, 3).longest(), 1);
        SwanSums x = new SwanSums();
        Given.day(x, "b3").done();
        due("longest()", x.longest(), 3);
    }

    private static void planIs(SwanSums x, int lesson, int... events) {
        due("plan(" + lesson + ", -1)", x.plan(lesson, -1), events.length);
        for (int i = 0; i < events.length; i++) {
            due("plan(" + lesson + ", " + i + ")", x.plan(lesson, i), events[i]);
        }
        due("plan, not so many", x.plan(lesson, events.length), NONE);
    }

    private static void plan() {
        Check.of("14");
        SwanSums x = new SwanSums();
        planIs(x, 0);
        planIs(x, 1, 1, 3);
        planIs(x, 3, 10);
        x = Given.numbers(4, 3, 2, 1);
        planIs(x, 0, 20);
        x = Given.numbers(1, 3, 2, 4);
        planIs(x, 0, 31);
        x = Given.numbers(8, 3, 6, 1);
        Given.day(x, "b3").done();
        planIs(x, 0, 11);
        x = Given.numbers(8, 2, 6, 4);
        due("by none", x.plan(4, -1), NONE);
        due("by none", x.plan(4, 0), NONE);
        due("below -1", x.plan(0, -2), NONE);
        due("LEAST", x.plan(0, LEAST), NONE);
        due("MOST", x.plan(0, MOST), NONE);
        due("plan(7, 0)", x.plan(7, 0), OUTSIDE);
        due("plan(-1, 0)", x.plan(-1, 0), OUTSIDE);
        rowIs(x, "0123");
        x = Given.numbers(9, 3, 5, 1, 7, 2, 0);
        planIs(x, 0, 5, 4, 6, 13);
        Given.day(x, "x6x5x4").done();
        planIs(x, 0, 3, 11);
    }

    private static void week() {
        Check.of("15");
        SwanSums x = new SwanSums();
        due("0", x.week(0, 1), 0);
        due("04", x.week(4, 2), 0);
        due("0404", x.week(404, 4), 0);
        due("2", x.week(2, 1), 1);
        due("20", x.week(20, 2), 2);
        due("02", x.week(2, 2), 1);
        due("1456", x.week(1456, 4), 5);
        due("7", x.week(7, 1), OUTSIDE);
        due("70", x.week(70, 2), OUTSIDE);
        due("10 of one", x.week(10, 1), OUTSIDE);
        due("none", x.week(0, 0), OUTSIDE);
        due("five", x.week(0, 5), OUTSIDE);
        due("below 0", x.week(-1, 1), OUTSIDE);
        due("10000", x.week(10000, 4), OUTSIDE);
        due("LEAST", x.week(LEAST, MOST), OUTSIDE);
        due("MOST", x.week(MOST, 4), OUTSIDE);
        x.number(0, 8);
        due("4 can not be", x.week(4, 1), NONE);
        due("4 can not be", x.week(204, 3), NONE);
        rowIs(x, "0123");
        x.swans(1);
        due("2 can not be", x.week(2, 1), NONE);
        due("of one", x.week(135, 3), 0);
    }

    private static void sell() {
        Check.of("16");
        SwanSums x = new SwanSums();
        int[] due = {15, 0, 1, 1, 9, 4, 0};
        for (int lesson = 0; lesson < 7; lesson++) {
            due("sell(" + lesson + ")", x.sell(lesson), due[lesson]);
        }
        due("sell(7)", x.sell(7), OUTSIDE);
        due("sell(-1)", x.sell(-1), OUTSIDE);
        Given.day(x, "b3").done();
        due("by SWAN, not by PLACE", x.sell(0), 8);
        Given.day(x, "x0").done();
        due("without the SOLD one", x.sell(0), 7);
        Given.day(x, "x0x0").done();
        due("the last one", x.sell(0), 0);
        due("the last one", x.sell(5), 0);
        rowIs(x, "2");
    }

    private static void wornIs(SwanSums x, int swan, int lesson, int many, int least, int greatest) {
        due("worn(" + swan + ", " + lesson + ", 0)", x.worn(swan, lesson, 0), many);
        due("worn(" + swan + ", " + lesson + ", 1)", x.worn(swan, lesson, 1), least);
        due("worn(" + swan + ", " + lesson + ", 2)", x.worn(swan, lesson, 2), greatest);
    }

    private static void worn() {
        Check.of("17");
        SwanSums x = new SwanSums();
        wornIs(x, 0, 2, 25, 2, 97);
        wornIs(x, 1, 2, 0, NONE, NONE);
        wornIs(x, 3, 0, 96, 4, 99);
        wornIs(x, 0, 0, 2, 0, 1);
        wornIs(x, 3, 4, 50, 0, 98);
        due("worn(4, 0, 0)", x.worn(4, 0, 0), UNKNOWN);
        due("worn(-1, 0, 0)", x.worn(-1, 0, 0), UNKNOWN);
        due("worn(MOST, 0, 0)", x.worn(MOST, 0, 0), UNKNOWN);
        due("worn(LEAST, 0, 0)", x.worn(LEAST, 0, 0), UNKNOWN);
        due("UNKNOWN ahead of OUTSIDE", x.worn(4, 7, 3), UNKNOWN);
        due("worn(0, 7, 0)", x.worn(0, 7, 0), OUTSIDE);
        due("worn(0, -1, 0)", x.worn(0, -1, 0), OUTSIDE);
        due("worn(0, 0, 3)", x.worn(0, 0, 3), OUTSIDE);
        due("worn(0, 0, -1)", x.worn(0, 0, -1), OUTSIDE);
        Given.day(x, "x0r").done();
        due("who is SOLD", x.worn(0, 0, 0), UNKNOWN);
        due("who is SOLD, ahead of OUTSIDE", x.worn(0, 9, 9), UNKNOWN);
        wornIs(x, 3, 2, 25, 2, 97);
        due("nothing changed", x.told(13), 4);
    }

    private static void rivals() {
        Check.of("18");
        SwanSums x = new SwanSums();
        due("rivals(0)", x.rivals(0), 6);
        due("rivals(1)", x.rivals(1), 1);
        due("rivals(2)", x.rivals(2), OUTSIDE);
        due("rivals(-1)", x.rivals(-1), OUTSIDE);
        x = Given.numbers(9, 2, 3, 4);
        due("rivals(0)", x.rivals(0), 12);
        due("rivals(1)", x.rivals(1), 0);
        x = Given.numbers(2, 2, 2);
        due("as good", x.rivals(0), 4);
        due("as good: the first", x.rivals(1), 0);
        x = Given.numbers(5, 99, 6, 1);
        due("not the greedy end", x.rivals(0), 100);
        due("not the greedy end", x.rivals(1), 1);
        x = Given.numbers(42);
        due("one", x.rivals(0), 42);
        due("one", x.rivals(1), 0);
        x = Given.numbers(99, 98, 97, 96, 95, 94, 93);
        due("seven", x.rivals(0), 99 + 97 + 95 + 93);
        x = new SwanSums();
        Given.day(x, "x3").done();
        due("without the SOLD one", x.rivals(0), 4);
        rowIs(x, "012");
    }

    private static void seen() {
        Check.of("19");
        SwanSums x = new SwanSums();
        due("seen(4, 0)", x.seen(4, 0), UNKNOWN);
        due("seen(-1, 0)", x.seen(-1, 0), UNKNOWN);
        due("UNKNOWN ahead of OUTSIDE", x.seen(4, 7), UNKNOWN);
        due("seen(0, 7)", x.seen(0, 7), OUTSIDE);
        due("seen(0, -1)", x.seen(0, -1), OUTSIDE);
        due("seen(0, 6)", x.seen(0, 6), 1);
        Given.day(x, "x3").done();
        due("a SOLD one", x.seen(3, 0), 2);
        for (int k = 3; k <= 6; k++) {
            due("the same again", x.seen(1, 1), k);
        }
        due("a seventh", x.seen(1, 1), FULL);
        due("OUTSIDE ahead of FULL", x.seen(1, 7), OUTSIDE);
        due("UNKNOWN ahead of FULL", x.seen(7, 1), UNKNOWN);
        due("told(3)", x.told(3), 6);
        due("none holds", x.filled(-1), 0);
        x.forget();
        x.seen(1, 1);
        due("it holds", x.filled(-1), 1);
        x.seen(3, 3);
        due("nobody is at that PLACE", x.filled(-1), 0);
    }

    private static void forget() {
        Check.of("20");
        SwanSums x = new SwanSums();
        due("forget()", x.forget(), 0);
        x.seen(0, 1);
        x.seen(2, 2);
        due("filled(-1)", x.filled(-1), 0);
        due("forget()", x.forget(), 2);
        due("filled(-1)", x.filled(-1), 1);
        due("forget()", x.forget(), 0);
        due("told(3)", x.told(3), 0);
        due("seen behind it", x.seen(3, 3), 1);
        due("filled(-1)", x.filled(-1), 1);
    }

    private static void filledIs(SwanSums x, String text, int ways, int... digits) {
        Given.day(x, text);
        due("filled(-1) of " + text, x.filled(-1), ways);
        for (int i = 0; i < digits.length; i++) {
            due("filled(" + i + ") of " + text, x.filled(i), digits[i]);
        }
        due("not so many", x.filled(digits.length), NONE);
        due("below -1", x.filled(-2), NONE);
    }

    private static void filled() {
        Check.of("21");
        SwanSums x = new SwanSums();
        filledIs(x, "", 1);
        filledIs(x, "b3", 1);
        filledIs(x, "b4", 0);
        filledIs(x, "b?", 4, 0);
        filledIs(x, "g?", 3, 0);
        filledIs(x, "x0g?", 2, 0);
        filledIs(x, "b?p?g?", 48, 0, 0, 0);
        filledIs(x, "b9p?", 0);
        filledIs(x, "x0x0x0b?p?", 1, 0, 0);
        filledIs(x, "x0x0x0g?", 0);
        due("a FAULT", Given.day(x, "b?b").filled(-1), NO);
        due("a FAULT", x.filled(0), NO);
        due("a fourth gap", Given.day(x, "b?b?b?b?").filled(-1), NO);
        x.seen(3, 0);
        filledIs(x, "b?", 1, 3);
        filledIs(x, "g?b?", 3, 0, 3);
        x.seen(0, 3);
        filledIs(x, "b?p?", 1, 3, 1);
        filledIs(x, "b3p1", 1);
        filledIs(x, "b3", 0);
        filledIs(x, "rb?p?", 2, 0, 3);
        filledIs(x, "x0b?", 0);
        rowIs(x, "0123");
        due("LEAST", x.filled(LEAST), NONE);
        due("MOST", x.filled(MOST), NONE);
        x.swans(7);
        filledIs(x, "b?p?g?", 7 * 7 * 6, 0, 0, 0);
        filledIs(x, "b?b?b?", 343, 0, 0, 0);
        x.seen(6, 6);
        x.seen(0, 0);
        filledIs(x, "p?b?", 2, 0, 6);
    }

    private static void pikesIs(SwanSums x, int lesson, int m, long upper, long lower) {
        due("pikes(" + lesson + ", " + m + ", 0)", x.pikes(lesson, m, 0), upper);
        due("pikes(" + lesson + ", " + m + ", 1)", x.pikes(lesson, m, 1), lower);
    }

    private static void pikes() {
        Check.of("22");
        SwanSums x = new SwanSums();
        pikesIs(x, 0, 0, 1, 1);
        pikesIs(x, 2, 0, 0, 1);
        pikesIs(x, 2, 1, 1, 4);
        pikesIs(x, 6, 3, 21, 64);
        pikesIs(x, 4, 3, 11, 32);
        due("pikes(7, 0, 0)", x.pikes(7, 0, 0), LOST + OUTSIDE);
        due("pikes(-1, 0, 0)", x.pikes(-1, 0, 0), LOST + OUTSIDE);
        due("pikes(0, 4, 0)", x.pikes(0, 4, 0), LOST + OUTSIDE);
        due("pikes(0, -1, 0)", x.pikes(0, -1, 0), LOST + OUTSIDE);
        due("pikes(0, 0, 2)", x.pikes(0, 0, 2), LOST + OUTSIDE);
        due("pikes(0, 0, -1)", x.pikes(0, 0, -1), LOST + OUTSIDE);
        x = Given.numbers(2, 4, 6);
        pikesIs(x, 1, 3, 1, 1);
        pikesIs(x, 4, 3, 0, 1);
        Given.day(x, "x0").done();
        pikesIs(x, 0, 1, 1, 2);
        pikesIs(x, 0, 3, 1, 2);
        x = Given.numbers(1, 2, 3, 4, 5, 6, 7);
        pikesIs(x, 0, 3, 5, 343);
        pikesIs(x, 2, 1, 1, 7);
        rowIs(x, "0123456");
    }

    private static void year() {
        Check.of("23");
        SwanSums x = new SwanSums();
        // x is 74: BREAD at 37 left over by 4, so SWAN 1 is first.
        due("year(0, 1, 11)", x.year(0, 1, 11), 1);
        due("year(0, 1, 10)", x.year(0, 1, 10), 0);
        due("year(0, 1, 2)", x.year(0, 1, 2), 1);
        // Then 5624: BREAD at 0; 28573 (75 times 5624 and 74, left over): a PIKE at 2.
        due("year(0, 2, 11)", x.year(0, 2, 11), 2);
        due("year(77, 99, 6)", x.year(77, 99, 6), 35);
        due("year(77, 99, 13)", x.year(77, 99, 13), 19);
        int first = 0;
        for (int swan = 0; swan < 4; swan++) {
            first += x.year(9999, 99, 10 + swan);
        }
        due("each noon one is first", first, 99);
        due("year(10000, 1, 0)", x.year(10000, 1, 0), OUTSIDE);
        due("year(-1, 1, 0)", x.year(-1, 1, 0), OUTSIDE);
        due("year(0, 0, 0)", x.year(0, 0, 0), OUTSIDE);
        due("year(0, 100, 0)", x.year(0, 100, 0), OUTSIDE);
        due("year(0, 1, -1)", x.year(0, 1, -1), OUTSIDE);
        due("year(0, 1, 7)", x.year(0, 1, 7), OUTSIDE);
        due("year(0, 1, 9)", x.year(0, 1, 9), OUTSIDE);
        due("year(0, 1, 14)", x.year(0, 1, 14), OUTSIDE);
        due("year(0, 1, LEAST)", x.year(0, 1, LEAST), OUTSIDE);
        due("year(0, 1, MOST)", x.year(0, 1, MOST), OUTSIDE);
        rowIs(x, "0123");
        Given.day(x, "x1").done();
        due("a SOLD one", x.year(0, 99, 11), 0);
        Given.day(x, "x0x0").done();
        due("the last one", x.year(5, 99, 13), 99);
    }

    private static void image() {
        Check.of("24");
        SwanSums x = new SwanSums();
        due("image(2)", x.image(2), OUTSIDE);
        due("image(-1)", x.image(-1), OUTSIDE);
        due("image(0)", x.image(0), 1);
        x.swans(6);
        x.number(2, 77);
        x.seen(2, 5);
        Given.day(x, "x0r").done();
        due("image(1)", x.image(1), 1);
        x.swans(1);
        due("restore(0)", x.restore(0), 1);
        rowIs(x, "0123");
        due("told(3)", x.told(3), 0);
        due("restore(1)", x.restore(1), 1);
        rowIs(x, "54321");
        due("told(1)", x.told(1), 6);
        due("told(12)", x.told(12), 77);
        due("told(3)", x.told(3), 1);
        Given.day(x, "g?");
        due("its SIGHT does not hold", x.filled(-1), 0);
        x.forget();
        due("without SIGHTS", x.filled(-1), 4);
        x.seen(5, 1);
        due("image(0) again", x.image(0), 1);
        x.forget();
        due("restore(0)", x.restore(0), 1);
        due("its SIGHT holds by one", x.filled(-1), 1);
        due("its SIGHT holds by one", x.filled(0), 0);
        x.number(2, 1);
        due("restore(0)", x.restore(0), 1);
        due("told(12)", x.told(12), 77);
    }

    private static void restore() {
        Check.of("25");
        SwanSums x = new SwanSums();
        due("restore(2)", x.restore(2), OUTSIDE);
        due("restore(-1)", x.restore(-1), OUTSIDE);
        due("restore(0)", x.restore(0), STATE);
        x.image(1);
        due("restore(0)", x.restore(0), STATE);
        Given.day(x, "x0").done();
        x.seen(0, 0);
        Given.day(x, "p0rz");
        due("restore(1)", x.restore(1), 1);
        rowIs(x, "0123");
        due("told(3)", x.told(3), 0);
        due("the PAD stays", x.told(0), 4);
        due("the PAD stays", x.fault(), 3);
        x.number(0, 9);
        due("the IMAGE is not what changes", x.restore(1), 1);
        due("told(10)", x.told(10), 1);
    }

    private static void told() {
        Check.of("26");
        SwanSums x = new SwanSums();
        x.swans(5);
        x.number(4, 33);
        Given.day(x, "x1").done();
        Given.day(x, "!!!");
        x.seen(0, 0);
        x.seen(0, 0);
        due("told(0)", x.told(0), 3);
        due("told(1)", x.told(1), 5);
        due("told(2)", x.told(2), 4);
        due("told(3)", x.told(3), 2);
        due("told(10)", x.told(10), 1);
        due("told(11) of a SOLD one", x.told(11), 2);
        due("told(14)", x.told(14), 33);
        due("told(15)", x.told(15), OUTSIDE);
        due("told(4)", x.told(4), OUTSIDE);
        due("told(9)", x.told(9), OUTSIDE);
        due("told(-1)", x.told(-1), OUTSIDE);
        due("told(LEAST)", x.told(LEAST), OUTSIDE);
        due("told(MOST)", x.told(MOST), OUTSIDE);
    }
}
