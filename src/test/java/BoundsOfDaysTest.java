/** Part 1 of the document (SWANS, THE ROW, EVENTS, DAYS, THE FAULT): a method for each sentence that names a bound. */
public final class BoundsOfDaysTest {
    private static final int NONE = Given.NONE, UNKNOWN = Given.UNKNOWN, OUTSIDE = Given.OUTSIDE;
    private static final int FULL = Given.FULL, NO = Given.NO, STATE = Given.STATE;
    private static final int LEAST = Given.LEAST, MOST = Given.MOST;
    private static final String DIGITS = "0123456789";

    public static void main(String[] args) {
        swansAreOneToSeven();
        fourAtFirst();
        swansAnswersHowManyOfAll();
        swansPutsAllAsAtFirst();
        swansLeavesThePad();
        numbersAreNoughtToNinetyNine();
        numbersAtFirst();
        numberKnowsSoldSwans();
        theRowAtFirst();
        placesFromNoughtOn();
        breadAtEitherEnd();
        pikeAtEitherEnd();
        rainOfFewAndMany();
        gustAtEitherEnd();
        soldAtEitherEnd();
        twoAtLeastForSold();
        sixtySigns();
        codes();
        wipeOfNoneAndAll();
        gapsAreThreeAtMost();
        gapsNotBehindSold();
        gapsStandForDigitsAlone();
        faultIsTheFirstSignThatCanNotStand();
        faultOfSignsThatMustCome();
        digitsCanStand();
        nobodyAtThePlace();
        nobodyBehind();
        theLastOneWouldBeSold();
        theLastCall();
        Check.end("BoundsOfDaysTest");
    }

    private static void due(String call, long got, long want) {
        Check.due(call, got, want);
    }

    private static void behindIs(SwanSums x, String text, String row) {
        Check.due("the row behind " + text, Given.rowBehind(x, text), row);
    }

    private static void swansAreOneToSeven() {
        Check.of("SWANS 0 to n less 1 (n 1 to 7)");
        for (int n = 1; n <= 7; n++) {
            SwanSums x = new SwanSums();
            due("swans(" + n + ")", x.swans(n), 4);
            due("told(1)", x.told(1), n);
            due("told(2)", x.told(2), n);
            due("the last SWAN", x.at(n - 1), n - 1);
            due("none beyond", x.at(n), UNKNOWN);
            due("its NUMBER", x.number(n - 1, 50), n);
            due("no such SWAN", x.number(n, 50), UNKNOWN);
        }
        SwanSums x = new SwanSums();
        due("swans(0)", x.swans(0), OUTSIDE);
        due("swans(8)", x.swans(8), OUTSIDE);
        due("swans(-1)", x.swans(-1), OUTSIDE);
        due("swans(LEAST)", x.swans(LEAST), OUTSIDE);
        due("swans(MOST)", x.swans(MOST), OUTSIDE);
        due("told(1)", x.told(1), 4);
    }

    private static void fourAtFirst() {
        Check.of("4 at first");
        SwanSums x = new SwanSums();
        due("told(1)", x.told(1), 4);
        due("told(2)", x.told(2), 4);
        Check.due("THE ROW", Given.row(x), "0123");
        due("no signs", x.told(0), 0);
        due("no SIGHTS", x.told(3), 0);
        due("no FAULT", x.fault(), NONE);
        due("no IMAGE 0", x.restore(0), STATE);
        due("no IMAGE 1", x.restore(1), STATE);
        due("swans(4)", x.swans(4), 4);
    }

    private static void swansAnswersHowManyOfAll() {
        Check.of("swans: which it was (of all, SOLD ones too)");
        SwanSums x = Given.done(Given.swans(7), "x6x5x4x3x2x1");
        due("told(2)", x.told(2), 1);
        due("swans(2)", x.swans(2), 7);
        due("swans(7)", x.swans(7), 2);
        due("swans(1)", x.swans(1), 7);
        due("swans(1)", x.swans(1), 1);
    }

    private static void swansPutsAllAsAtFirst() {
        Check.of("swans: NUMBERS, THE ROW are as at first, SIGHTS go");
        SwanSums x = Given.numbers(9, 9, 9, 9, 9);
        Given.done(x, "rx0");
        x.seen(0, 0);
        x.seen(0, 0);
        due("swans(5), as many as there were", x.swans(5), 5);
        Check.due("THE ROW", Given.row(x), "01234");
        for (int k = 0; k < 5; k++) {
            due("told(" + (10 + k) + ")", x.told(10 + k), k + 1);
        }
        due("SIGHTS", x.told(3), 0);
        x.seen(4, 0);
        due("none of the SIGHTS is left but the new one", Given.day(x, "b4").filled(-1), 1);
        due("swans(3)", x.swans(3), 5);
        due("SIGHTS, of fewer SWANS", x.told(3), 0);
        due("no SIGHT is left", Given.day(x, "r").filled(-1), 1);
    }

    private static void swansLeavesThePad() {
        Check.of("swans: (THE PAD stays.)");
        SwanSums x = Given.day(Given.swans(7), "b6");
        due("judge() of seven", x.judge(), NONE);
        x.swans(6);
        due("told(0)", x.told(0), 2);
        due("judge() of six", x.judge(), 0);
        x.swans(7);
        due("behind(0)", x.behind(0), 6);
        for (int k = 3; k <= 60; k++) {
            x.say('r');
        }
        x.swans(1);
        due("a full PAD stays full", x.say('r'), FULL);
    }

    private static void numbersAreNoughtToNinetyNine() {
        Check.of("a NUMBER (0 to 99)");
        for (int swan = 0; swan < 7; swan += 6) {
            SwanSums x = Given.swans(7);
            due("0 of SWAN " + swan, x.number(swan, 0), swan + 1);
            due("99", x.number(swan, 99), 0);
            due("100", x.number(swan, 100), OUTSIDE);
            due("-1", x.number(swan, -1), OUTSIDE);
            due("LEAST", x.number(swan, LEAST), OUTSIDE);
            due("MOST", x.number(swan, MOST), OUTSIDE);
            due("256, whose low bits are 0", x.number(swan, 256), OUTSIDE);
            due("told", x.told(10 + swan), 99);
            due("its neighbour's", x.told(swan == 0 ? 11 : 15), swan == 0 ? 2 : 6);
        }
    }

    private static void numbersAtFirst() {
        Check.of("SWAN k has k and 1 at first");
        for (int n = 1; n <= 7; n++) {
            SwanSums x = Given.swans(n);
            for (int k = 0; k < n; k++) {
                due("told(" + (10 + k) + ") of " + n, x.told(10 + k), k + 1);
            }
            due("told of no SWAN", x.told(10 + n), OUTSIDE);
        }
    }

    private static void numberKnowsSoldSwans() {
        Check.of("number: UNKNOWN (there is no such SWAN)");
        SwanSums x = Given.done(new SwanSums(), "x3");
        due("a SOLD one", x.number(3, 99), 4);
        due("a SOLD one, 100", x.number(3, 100), OUTSIDE);
        due("told(13)", x.told(13), 99);
        due("number(4, 0)", x.number(4, 0), UNKNOWN);
        due("number(-1, 0)", x.number(-1, 0), UNKNOWN);
        due("number(LEAST, 0)", x.number(LEAST, 0), UNKNOWN);
        due("number(MOST, 0)", x.number(MOST, 0), UNKNOWN);
        due("UNKNOWN ahead of OUTSIDE", x.number(4, -1), UNKNOWN);
    }

    private static void theRowAtFirst() {
        Check.of("THE ROW by numbers of SWANS at first");
        for (int n = 1; n <= 7; n++) {
            Check.due("of " + n, Given.row(Given.swans(n)), "0123456".substring(0, n));
        }
    }

    private static void placesFromNoughtOn() {
        Check.of("PLACES from 0 on; at: UNKNOWN");
        SwanSums x = Given.swans(7);
        due("at(0)", x.at(0), 0);
        due("at(6)", x.at(6), 6);
        due("at(7)", x.at(7), UNKNOWN);
        due("at(-1)", x.at(-1), UNKNOWN);
        due("at(LEAST)", x.at(LEAST), UNKNOWN);
        due("at(MOST)", x.at(MOST), UNKNOWN);
        Given.done(x, "x0x0x0x0x0");
        due("at(1)", x.at(1), 6);
        due("at(2), where nobody is now", x.at(2), UNKNOWN);
        Given.done(x, "x0");
        due("at(0), the last SWAN", x.at(0), 6);
        due("at(1)", x.at(1), UNKNOWN);
    }

    private static void breadAtEitherEnd() {
        Check.of("BREAD: who is there goes to PLACE 0 (those ahead one back)");
        behindIs(new SwanSums(), "b0", "0123");
        behindIs(new SwanSums(), "b1", "1023");
        behindIs(new SwanSums(), "b3", "3012");
        behindIs(Given.swans(7), "b6", "6012345");
        behindIs(Given.swans(7), "b3", "3012456");
        behindIs(Given.swans(1), "b0", "0");
        behindIs(Given.swans(2), "b1", "10");
    }

    private static void pikeAtEitherEnd() {
        Check.of("a PIKE: who is there goes to the last PLACE (those behind one on)");
        behindIs(new SwanSums(), "p0", "1230");
        behindIs(new SwanSums(), "p2", "0132");
        behindIs(new SwanSums(), "p3", "0123");
        behindIs(Given.swans(7), "p0", "1234560");
        behindIs(Given.swans(7), "p3", "0124563");
        behindIs(Given.swans(1), "p0", "0");
        behindIs(Given.swans(2), "p0", "10");
    }

    private static void rainOfFewAndMany() {
        Check.of("RAIN: THE ROW is turned round");
        behindIs(Given.swans(1), "r", "0");
        behindIs(Given.swans(2), "r", "10");
        behindIs(Given.swans(3), "r", "210");
        behindIs(Given.swans(6), "r", "543210");
        behindIs(Given.swans(7), "r", "6543210");
        behindIs(Given.swans(7), "rr", "0123456");
    }

    private static void gustAtEitherEnd() {
        Check.of("a GUST: who is there and who is behind change PLACES");
        behindIs(new SwanSums(), "g0", "1023");
        behindIs(new SwanSums(), "g2", "0132");
        behindIs(Given.swans(7), "g0", "1023456");
        behindIs(Given.swans(7), "g5", "0123465");
        behindIs(Given.swans(2), "g0", "10");
    }

    private static void soldAtEitherEnd() {
        Check.of("SOLD: who is at a PLACE is there no more");
        behindIs(new SwanSums(), "x0", "123");
        behindIs(new SwanSums(), "x3", "012");
        behindIs(Given.swans(7), "x0", "123456");
        behindIs(Given.swans(7), "x6", "012345");
        behindIs(Given.swans(7), "x3", "012456");
        SwanSums x = Given.done(new SwanSums(), "x0");
        due("of all", x.told(1), 4);
        due("in THE ROW", x.told(2), 3);
    }

    private static void twoAtLeastForSold() {
        Check.of("SOLD (there must be two, at least)");
        behindIs(Given.swans(2), "x0", "1");
        behindIs(Given.swans(2), "x1", "0");
        due("of one", Given.day(Given.swans(1), "x0").done(), NO);
        SwanSums x = Given.swans(7);
        due("six of seven", Given.day(x, "x0x0x0x0x0x0").done(), 6);
        Check.due("the last one", Given.row(x), "6");
        due("the last one", Given.day(x, "x0").done(), NO);
        Check.due("the last one stays", Given.row(x), "6");
        due("all of seven", Given.day(Given.swans(7), "x0x0x0x0x0x0x0").done(), NO);
    }

    private static void sixtySigns() {
        Check.of("a PAD (60 SIGNS at most)");
        SwanSums x = new SwanSums();
        for (int k = 1; k <= 60; k++) {
            due("say, " + k, x.say('r'), k);
        }
        due("a 61st", x.say('r'), FULL);
        due("a 61st that would be a FAULT", x.say('z'), FULL);
        due("told(0)", x.told(0), 60);
        due("no FAULT", x.fault(), NONE);
        due("wipe()", x.wipe(), 60);
        due("the first one again", x.say('r'), 1);
        StringBuilder day = new StringBuilder();
        for (int k = 0; k < 30; k++) {
            day.append("p0");
        }
        due("thirty EVENTS of two signs", Given.day(x, day.toString()).done(), 30);
        Check.due("THE ROW behind thirty", Given.row(x), "2301");
        due("the PAD is empty", x.told(0), 0);
        due("and takes signs again", x.say('r'), 1);
    }

    private static void codes() {
        Check.of("codes 33 to 126");
        SwanSums x = new SwanSums();
        for (int code = 33; code <= 126; code++) {
            x.wipe();
            due("say(" + code + ")", x.say(code), 1);
        }
        for (int code : new int[] {32, 127, 0, -1, 9, 255, 256 + 'r', LEAST, MOST}) {
            due("say(" + code + ")", x.say(code), OUTSIDE);
        }
        due("told(0)", x.told(0), 1);
        Given.day(x, "r".repeat(60));
        due("the PAD is full", x.say(33), FULL);
        due("OUTSIDE ahead of FULL, 32", x.say(32), OUTSIDE);
        due("OUTSIDE ahead of FULL, 127", x.say(127), OUTSIDE);
    }

    private static void wipeOfNoneAndAll() {
        Check.of("wipe: Signs go: how many there were");
        SwanSums x = new SwanSums();
        due("of none", x.wipe(), 0);
        due("of one", Given.day(x, "z").wipe(), 1);
        due("again", x.wipe(), 0);
        due("no FAULT is left", x.fault(), NONE);
        due("told(0)", x.told(0), 0);
        Given.day(x, "b?b?b?").wipe();
        due("no ? is left", Given.day(x, "b?").filled(-1), 4);
    }

    private static void faultOf(String text, int want) {
        due("fault() of " + text, Given.day(new SwanSums(), text).fault(), want);
    }

    private static void gapsAreThreeAtMost() {
        Check.of("? (3 at most)");
        faultOf("b?p?g?", NONE);
        faultOf("b?p?g?b?", 7);
        faultOf("b?p?g?g?", 7);
        faultOf("b?p?g?p?b?", 7);
        faultOf("b?rp0x1p?g2rg?x0b3", NONE);
        faultOf("b?rp0x1p?g2rg?x0b?", 17);
        faultOf("b?p?g?b0", NONE);
        SwanSums x = Given.day(new SwanSums(), "b?p?g?");
        due("three: filled(-1)", x.filled(-1), 4 * 4 * 3);
        due("three: done()", x.done(), STATE);
        Given.day(x, "b?p?g?b?");
        due("four: filled(-1)", x.filled(-1), NO);
        due("four: done()", x.done(), NO);
    }

    private static void gapsNotBehindSold() {
        Check.of("? (not behind x)");
        faultOf("x?", 1);
        faultOf("x0x?", 3);
        faultOf("b?x?", 3);
        faultOf("b?p?g?x?", 7);
        faultOf("b?p?x?g?", 5);
        faultOf("x0b?p?g?x0", NONE);
    }

    private static void gapsStandForDigitsAlone() {
        Check.of("? instead of a digit");
        faultOf("?", 0);
        faultOf("?0", 0);
        faultOf("r?", 1);
        faultOf("b0?", 2);
        faultOf("b??", 2);
    }

    private static void faultIsTheFirstSignThatCanNotStand() {
        Check.of("THE FAULT: the place (from 0 on) of the first sign that can not stand there");
        for (int code = 33; code <= 126; code++) {
            String sign = Character.toString((char) code);
            faultOf(sign + "0", sign.equals("r") ? 1 : "bpgx".contains(sign) ? NONE : 0);
            faultOf("b" + sign, (DIGITS + "?").contains(sign) ? NONE : 1);
            faultOf("p" + sign, (DIGITS + "?").contains(sign) ? NONE : 1);
            faultOf("g" + sign, (DIGITS + "?").contains(sign) ? NONE : 1);
            faultOf("x" + sign, DIGITS.contains(sign) ? NONE : 1);
        }
        faultOf("", NONE);
        faultOf("zz", 0);
        faultOf("bzz", 1);
        faultOf("rz0b", 1);
        faultOf("b0p1rg2x3!", 9);
        String full = "r".repeat(59);
        faultOf(full + "r", NONE);
        faultOf(full + "R", 59);
    }

    private static void faultOfSignsThatMustCome() {
        Check.of("THE FAULT: or the number of signs, if more must come");
        faultOf("b", 1);
        faultOf("p", 1);
        faultOf("g", 1);
        faultOf("x", 1);
        faultOf("r", NONE);
        faultOf("b0g", 3);
        faultOf("b?p?g?b", 7);
        String full = "r".repeat(59);
        faultOf(full + "b", 60);
        faultOf("z" + "r".repeat(58) + "b", 0);
        SwanSums x = Given.day(new SwanSums(), "b");
        x.say('0');
        due("when it has come", x.fault(), NONE);
    }

    private static void digitsCanStand() {
        Check.of("(digits 0 to 9 can)");
        for (char sort : new char[] {'b', 'p', 'g', 'x'}) {
            for (char digit : DIGITS.toCharArray()) {
                faultOf("" + sort + digit, NONE);
            }
            faultOf(sort + "/", 1);
            faultOf(sort + ":", 1);
        }
        due("it can stand, but not be", Given.day(Given.swans(7), "b9").judge(), 0);
    }

    private static void nobodyAtThePlace() {
        Check.of("An EVENT can not be, if there is nobody at the PLACE");
        for (int n = 1; n <= 7; n++) {
            for (int place = 0; place <= 9; place++) {
                int want = place < n ? NONE : 0;
                due("b" + place + " of " + n, Given.day(Given.swans(n), "b" + place).judge(), want);
                due("p" + place + " of " + n, Given.day(Given.swans(n), "p" + place).judge(), want);
                due("x" + place + " of " + n, Given.day(Given.swans(n), "x" + place).judge(), n > 1 ? want : 0);
            }
            due("r of " + n, Given.day(Given.swans(n), "r").judge(), NONE);
        }
        due("behind SOLD ones b2", Given.day(new SwanSums(), "x0b2").judge(), NONE);
        due("behind SOLD ones b3", Given.day(new SwanSums(), "x0b3").judge(), 1);
        due("behind SOLD ones p2", Given.day(new SwanSums(), "x0p2").judge(), NONE);
        due("behind SOLD ones p3", Given.day(new SwanSums(), "x0p3").judge(), 1);
        due("behind SOLD ones x2", Given.day(new SwanSums(), "x0x2").judge(), NONE);
        due("behind SOLD ones x3", Given.day(new SwanSums(), "x0x3").judge(), 1);
    }

    private static void nobodyBehind() {
        Check.of("An EVENT can not be (of a GUST: nobody behind)");
        for (int n = 1; n <= 7; n++) {
            for (int place = 0; place <= 9; place++) {
                due("g" + place + " of " + n, Given.day(Given.swans(n), "g" + place).judge(), place < n - 1 ? NONE : 0);
            }
        }
        due("behind SOLD ones g1", Given.day(new SwanSums(), "x0g1").judge(), NONE);
        due("behind SOLD ones g2", Given.day(new SwanSums(), "x0g2").judge(), 1);
    }

    private static void theLastOneWouldBeSold() {
        Check.of("An EVENT can not be, if it is the last one that would be SOLD");
        due("of one", Given.day(Given.swans(1), "x0").judge(), 0);
        due("of one, behind others", Given.day(Given.swans(1), "rb0p0x0").judge(), 3);
        due("of two", Given.day(Given.swans(2), "x0").judge(), NONE);
        due("of two, the second", Given.day(Given.swans(2), "x1x0").judge(), 1);
        due("of seven, the sixth", Given.day(Given.swans(7), "x6x5x4x3x2x1").judge(), NONE);
        due("of seven, the seventh", Given.day(Given.swans(7), "x6x5x4x3x2x1x0").judge(), 6);
    }

    private static void theLastCall() {
        Check.of("An object is used for at most 512 calls");
        SwanSums x = new SwanSums();
        int before = 4;
        for (int call = 1; call <= 510; call += 2) {
            int n = 1 + call % 7;
            due("swans(" + n + "), call " + call, x.swans(n), before);
            due("week(0, 4), call " + (call + 1), x.week(0, 4), 0);
            before = n;
        }
        due("swans(7), call 511", x.swans(7), before);
        due("plan(1, -1), call 512", x.plan(1, -1), 3);
        x = new SwanSums();
        for (int call = 1; call <= 511; call++) {
            due("number(3, ..), call " + call, x.number(3, call % 100), call == 1 ? 4 : (call - 1) % 100);
        }
        due("told(13), call 512", x.told(13), 11);
    }
}
