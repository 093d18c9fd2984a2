import java.util.Arrays;

/** Part 2 of the document (JUDGED, DONE, BEHIND, LESSONS, READ, LONGEST): a method for each sentence that names a bound. */
public final class BoundsOfNoonsTest {
    private static final int NONE = Given.NONE, OUTSIDE = Given.OUTSIDE, STATE = Given.STATE, NO = Given.NO;
    private static final int LEAST = Given.LEAST, MOST = Given.MOST;

    public static void main(String[] args) {
        judgedTheFirstOrTheLast();
        judgeRefuses();
        judgeChangesNothing();
        doneOfNoneAndMany();
        doneRefuses();
        behindOfEitherEnd();
        behindRefuses();
        taughtNowOrBehind();
        risingOnes();
        evenOnesAhead();
        primes();
        squares();
        evenAndOddByTurns();
        someWholeNumberTimes();
        halves();
        ofOneSwanAlone();
        allBits();
        readSums();
        readWhat();
        oneSwanAtLeast();
        longestOfOneAndAll();
        Check.end("BoundsOfNoonsTest");
    }

    private static void due(String call, long got, long want) {
        Check.due(call, got, want);
    }

    private static void judgeOf(int swans, String text, int want) {
        due("judge() of " + text + ", " + swans + " SWANS", Given.day(Given.swans(swans), text).judge(), want);
    }

    private static void judgedTheFirstOrTheLast() {
        Check.of("JUDGED: the first EVENT that can not be");
        judgeOf(4, "", NONE);
        judgeOf(4, "b4", 0);
        judgeOf(4, "b4p4", 0);
        judgeOf(4, "b3p4", 1);
        judgeOf(4, "b3p4b4", 1);
        judgeOf(4, "rrrb4", 3);
        judgeOf(4, "r".repeat(58) + "g2", NONE);
        judgeOf(4, "r".repeat(58) + "g3", 58);
        judgeOf(7, "p0".repeat(29) + "p6", NONE);
        judgeOf(7, "p0".repeat(29) + "p7", 29);
        judgeOf(7, "x6x5x4x3x2x1b0", NONE);
        judgeOf(7, "x6x5x4x3x2x1b1", 6);
    }

    private static void judgeRefuses() {
        Check.of("judge: NO: there is a FAULT; STATE: there is some ?");
        judgeOf(4, "b", NO);
        judgeOf(4, "b9b", NO);
        judgeOf(4, "z", NO);
        judgeOf(4, "b?", STATE);
        judgeOf(4, "b?b?b?", STATE);
        judgeOf(4, "b9b?", STATE);
        judgeOf(4, "b?b9", STATE);
        judgeOf(4, "b?b?b?b?", NO);
        judgeOf(4, "b?b", NO);
        judgeOf(4, "x?", NO);
    }

    private static void judgeChangesNothing() {
        Check.of("judge tells, and does nothing");
        SwanSums x = Given.day(new SwanSums(), "x3r");
        x.judge();
        due("the PAD stays", x.told(0), 3);
        Check.due("THE ROW stays", Given.row(x), "0123");
        due("judge() again", x.judge(), NONE);
    }

    private static void doneOfNoneAndMany() {
        Check.of("done: The DAY on the PAD is DONE (it is empty then): EVENTS");
        SwanSums x = new SwanSums();
        due("of none", x.done(), 0);
        due("of one", Given.day(x, "r").done(), 1);
        Check.due("THE ROW", Given.row(x), "3210");
        due("the PAD", x.told(0), 0);
        due("it is not done again", x.done(), 0);
        Check.due("THE ROW", Given.row(x), "3210");
        due("of sixty", Given.day(x, "r".repeat(60)).done(), 60);
        due("of mixed ones", Given.day(x, "rb1rp2x3g0r").done(), 7);
        due("told(2)", x.told(2), 3);
    }

    private static void doneIs(String text, int want) {
        SwanSums x = Given.day(Given.swans(2), text);
        due("done() of " + text, x.done(), want);
        due("the PAD stays, of " + text, x.told(0), text.length());
        Check.due("THE ROW stays, of " + text, Given.row(x), "01");
    }

    private static void doneRefuses() {
        Check.of("done: NO: there is a FAULT, or (without ?) an EVENT that can not be; STATE: there is some ?");
        doneIs("rb", NO);
        doneIs("rz", NO);
        doneIs("rb2", NO);
        doneIs("rg1", NO);
        doneIs("rx0x0", NO);
        doneIs("rb?", STATE);
        doneIs("rb2b?", STATE);
        doneIs("rb?b2", STATE);
        doneIs("rb?b?b?b?", NO);
        doneIs("rb?b", NO);
        doneIs("rb?x?", NO);
    }

    private static void behindOfEitherEnd() {
        Check.of("behind: how many there are (place = -1), who is at a PLACE; NONE");
        SwanSums x = Given.day(Given.swans(7), "");
        due("behind(-1) of seven", x.behind(-1), 7);
        due("behind(0)", x.behind(0), 0);
        due("behind(6)", x.behind(6), 6);
        due("behind(7)", x.behind(7), NONE);
        due("behind(-2)", x.behind(-2), NONE);
        due("behind(LEAST)", x.behind(LEAST), NONE);
        due("behind(MOST)", x.behind(MOST), NONE);
        Given.day(x, "x0x0x0x0x0x0");
        due("behind(-1) of one", x.behind(-1), 1);
        due("behind(0)", x.behind(0), 6);
        due("behind(1)", x.behind(1), NONE);
        due("now there are seven", x.told(2), 7);
        Given.done(x, "x6x5");
        Given.day(x, "");
        due("SOLD ones are not there", x.behind(-1), 5);
        due("behind(5)", x.behind(5), NONE);
    }

    private static void behindRefuses() {
        Check.of("behind: NO, STATE, as of done()");
        for (int place : new int[] {-2, -1, 0, 3, 4, LEAST, MOST}) {
            SwanSums x = new SwanSums();
            due("behind(" + place + ") of a FAULT", Given.day(x, "b").behind(place), NO);
            due("of what can not be", Given.day(x, "b4").behind(place), NO);
            due("of some ?", Given.day(x, "b?").behind(place), STATE);
            due("of some ? and what can not be", Given.day(x, "b4b?").behind(place), STATE);
            due("of some ? and a FAULT", Given.day(x, "b?b").behind(place), NO);
        }
    }

    private static void taughtNowOrBehind() {
        Check.of("taught: now (what = 0), BEHIND (1). OUTSIDE; NO, STATE, likewise (of 1)");
        SwanSums x = Given.day(new SwanSums(), "r");
        due("taught(0)", x.taught(0), 17);
        due("taught(1)", x.taught(1), 24);
        due("taught(2)", x.taught(2), OUTSIDE);
        due("taught(-1)", x.taught(-1), OUTSIDE);
        due("taught(LEAST)", x.taught(LEAST), OUTSIDE);
        due("taught(MOST)", x.taught(MOST), OUTSIDE);
        for (String text : new String[] {"b", "b4", "b?", "b4b?", "b?b"}) {
            int want = text.equals("b?") || text.equals("b4b?") ? STATE : NO;
            due("taught(1) of " + text, Given.day(x, text).taught(1), want);
            due("taught(0) of " + text, x.taught(0), 17);
            due("taught(2) of " + text, x.taught(2), OUTSIDE);
            due("taught(-1) of " + text, x.taught(-1), OUTSIDE);
        }
        due("of an empty PAD", Given.day(x, "").taught(1), 17);
        due("fewer SWANS BEHIND than now", Given.day(x, "x0x0x0").taught(1), 59);
    }

    private static void teaches(int lesson, boolean want, int... numbers) {
        SwanSums x = Given.numbers(numbers);
        String row = Arrays.toString(numbers);
        due("LESSON " + lesson + " of " + row, x.taught(0) >> lesson & 1, want ? 1 : 0);
        due("the PIKES' chance of it, of " + row, x.pikes(lesson, 0, 0), want ? 1 : 0);
    }

    private static void risingOnes() {
        Check.of("LESSON 0: NUMBERS rise (each above the one ahead)");
        teaches(0, true, 0, 1);
        teaches(0, false, 1, 1);
        teaches(0, false, 0, 0);
        teaches(0, false, 1, 0);
        teaches(0, true, 0, 99);
        teaches(0, true, 0, 1, 2, 3, 4, 5, 99);
        teaches(0, false, 0, 0, 2, 3, 4, 5, 99);
        teaches(0, false, 0, 1, 2, 3, 4, 99, 99);
        teaches(0, false, 0, 1, 2, 3, 4, 99, 5);
    }

    private static void evenOnesAhead() {
        Check.of("LESSON 1: even ones ahead of odd ones");
        teaches(1, true, 2, 1);
        teaches(1, false, 1, 2);
        teaches(1, true, 0, 1);
        teaches(1, false, 1, 0);
        teaches(1, true, 4, 2, 0);
        teaches(1, true, 5, 3, 1);
        teaches(1, true, 2, 4, 6, 8, 10, 12, 1);
        teaches(1, true, 2, 1, 3, 5, 7, 9, 11);
        teaches(1, false, 2, 1, 3, 5, 7, 9, 98);
        teaches(1, false, 1, 2, 4, 6, 8, 10, 12);
    }

    private static void primes() {
        Check.of("LESSON 2: the first one is a prime");
        teaches(2, false, 0, 2);
        teaches(2, false, 1, 2);
        teaches(2, true, 2, 4);
        teaches(2, true, 3, 4);
        teaches(2, false, 4, 2);
        teaches(2, false, 9, 2);
        teaches(2, false, 25, 2);
        teaches(2, false, 49, 2);
        teaches(2, false, 91, 2);
        teaches(2, true, 89);
        teaches(2, true, 97, 1, 1, 1, 1, 1, 1);
        teaches(2, false, 99, 97);
    }

    private static void squares() {
        Check.of("LESSON 3: the first three (all, if fewer) come to a square (0, 1, 4, ..)");
        teaches(3, true, 0);
        teaches(3, true, 1);
        teaches(3, false, 2);
        teaches(3, false, 3);
        teaches(3, true, 4);
        teaches(3, true, 81);
        teaches(3, true, 0, 0);
        teaches(3, true, 1, 3);
        teaches(3, false, 1, 4);
        teaches(3, true, 98, 98);
        teaches(3, false, 99, 98);
        teaches(3, true, 1, 1, 2);
        teaches(3, true, 1, 1, 2, 1);
        teaches(3, false, 1, 1, 1, 1);
        teaches(3, true, 99, 98, 92);
        teaches(3, false, 99, 98, 91);
        teaches(3, false, 99, 98, 93);
        teaches(3, false, 99, 99, 99);
        teaches(3, true, 0, 0, 0, 5, 5, 5, 5);
    }

    private static void evenAndOddByTurns() {
        Check.of("LESSON 4: no two side by side are both even or both odd");
        teaches(4, true, 0, 1);
        teaches(4, true, 1, 0);
        teaches(4, false, 0, 0);
        teaches(4, false, 1, 99);
        teaches(4, false, 0, 98);
        teaches(4, true, 0, 99, 98, 97, 2, 5, 0);
        teaches(4, false, 0, 2, 1, 2, 1, 2, 1);
        teaches(4, false, 1, 2, 1, 2, 1, 2, 4);
    }

    private static void someWholeNumberTimes() {
        Check.of("LESSON 5: of any two side by side one is the other times some whole number (0 is that of all)");
        teaches(5, true, 0, 0);
        teaches(5, true, 0, 7);
        teaches(5, true, 7, 0);
        teaches(5, true, 1, 97);
        teaches(5, true, 97, 1);
        teaches(5, true, 7, 7);
        teaches(5, true, 33, 99);
        teaches(5, true, 99, 33);
        teaches(5, false, 98, 99);
        teaches(5, false, 4, 6);
        teaches(5, true, 2, 0, 3, 0, 5, 0, 7);
        teaches(5, false, 2, 3, 0, 0, 0, 0, 0);
        teaches(5, false, 0, 0, 0, 0, 0, 2, 3);
    }

    private static void halves() {
        Check.of("LESSON 6: the first half (the lesser, cut) comes to as much as the rest");
        teaches(6, true, 5, 5);
        teaches(6, false, 5, 6);
        teaches(6, true, 5, 2, 3);
        teaches(6, false, 2, 3, 5);
        teaches(6, false, 5, 0, 4);
        teaches(6, true, 1, 4, 2, 3);
        teaches(6, true, 99, 98, 1, 99, 0, 0, 99);
        teaches(6, true, 66, 66, 66, 99, 99, 0, 0);
        teaches(6, false, 66, 66, 66, 99, 99, 0, 1);
        teaches(6, true, 0, 0);
        teaches(6, true, 0, 0, 0, 0, 0, 0, 0);
    }

    private static void ofOneSwanAlone() {
        Check.of("(Of one SWAN alone 0, 1, 4, 5 are TAUGHT, 6 just if its NUMBER is 0.)");
        int alone = 1 | 2 | 16 | 32;
        for (int v = 0; v <= 99; v++) {
            SwanSums x = Given.numbers(v);
            due("LESSONS 0, 1, 4, 5 of " + v, x.taught(0) & alone, alone);
            due("LESSON 6 of " + v, x.taught(0) >> 6, v == 0 ? 1 : 0);
            Given.day(x, "rb0p0");
            due("BEHIND, of " + v, x.taught(1), x.taught(0));
        }
        SwanSums x = new SwanSums();
        x.number(2, 0);
        Given.done(x, "x0x0x1");
        due("one of four", x.taught(0), alone | 8 | 64);
    }

    private static void allBits() {
        Check.of("TAUGHT: LESSONS, as bits");
        due("none", Given.numbers(1, 6, 4).taught(0), 0);
        due("0 alone", Given.numbers(4, 10, 14).taught(0) & 1, 1);
        due("all but 2, of one", Given.numbers(0).taught(0), 1 + 2 + 8 + 16 + 32 + 64);
        due("all but 3, 6, of one", Given.numbers(2).taught(0), 1 + 2 + 4 + 16 + 32);
        due("1, 2, 3, 5, 6", Given.numbers(2, 2).taught(0), 2 + 4 + 8 + 32 + 64);
        due("all but 1, 6", Given.numbers(3, 6).taught(0), 1 + 4 + 8 + 16 + 32);
    }

    private static void readSums() {
        Check.of("read: OUTSIDE: sum 0 to 693, what");
        SwanSums x = Given.numbers(99, 99, 99, 99, 99, 99, 99);
        due("read(693, 0)", x.read(693, 0), 1);
        due("read(693, 1)", x.read(693, 1), 0);
        due("read(693, 2)", x.read(693, 2), 7);
        due("read(692, 0)", x.read(692, 0), 0);
        due("read(0, 0)", x.read(0, 0), 0);
        for (int what = 0; what <= 2; what++) {
            due("read(694, " + what + ")", x.read(694, what), OUTSIDE);
            due("read(-1, " + what + ")", x.read(-1, what), OUTSIDE);
            due("read(LEAST, " + what + ")", x.read(LEAST, what), OUTSIDE);
            due("read(MOST, " + what + ")", x.read(MOST, what), OUTSIDE);
        }
        for (int what : new int[] {-1, 3, LEAST, MOST}) {
            due("read(0, " + what + ")", x.read(0, what), OUTSIDE);
            due("read(693, " + what + ")", x.read(693, what), OUTSIDE);
            due("read(694, " + what + ")", x.read(694, what), OUTSIDE);
        }
        due("693 of the row as at first", new SwanSums().read(693, 0), 0);
    }

    private static void readIs(SwanSums x, int sum, int many, int first, int shortest) {
        due("read(" + sum + ", 0)", x.read(sum, 0), many);
        due("read(" + sum + ", 1)", x.read(sum, 1), first);
        due("read(" + sum + ", 2)", x.read(sum, 2), shortest);
    }

    private static void readWhat() {
        Check.of("READ: how many (what = 0), where the first begins (1; NONE), how long the shortest is (2; NONE)");
        SwanSums x = Given.numbers(1, 1, 1, 3, 0, 0, 3);
        readIs(x, 3, 7, 0, 1);
        readIs(x, 0, 3, 4, 1);
        readIs(x, 9, 1, 0, 7);
        readIs(x, 10, 0, NONE, NONE);
        readIs(x, 8, 1, 1, 6);
        readIs(x, 7, 1, 2, 5);
        readIs(x, 2, 2, 0, 2);
        readIs(Given.numbers(5, 4, 6), 6, 1, 2, 1);
        readIs(Given.numbers(4, 2, 6), 6, 2, 0, 1);
        readIs(Given.numbers(0), 0, 1, 0, 1);
        readIs(Given.numbers(7), 7, 1, 0, 1);
        readIs(Given.numbers(7), 6, 0, NONE, NONE);
        SwanSums sold = Given.done(new SwanSums(), "x3");
        readIs(sold, 6, 1, 0, 3);
        readIs(sold, 4, 0, NONE, NONE);
        readIs(sold, 10, 0, NONE, NONE);
    }

    private static void oneSwanAtLeast() {
        Check.of("READ: stretches of SWANS side by side (one at least)");
        readIs(new SwanSums(), 0, 0, NONE, NONE);
        readIs(Given.numbers(1), 0, 0, NONE, NONE);
        readIs(Given.numbers(0, 0), 0, 3, 0, 1);
        readIs(Given.numbers(0, 0, 0, 0, 0, 0, 0), 0, 28, 0, 1);
        readIs(Given.numbers(1, 9, 2), 3, 0, NONE, NONE);
    }

    private static void longestOfOneAndAll() {
        Check.of("LONGEST: of the stretches that rise");
        due("of one", Given.numbers(5).longest(), 1);
        due("of equal ones", Given.numbers(0, 0, 0, 0, 0, 0, 0).longest(), 1);
        due("of falling ones", Given.numbers(9, 8, 7, 6, 5, 4, 3).longest(), 1);
        due("of all", Given.swans(7).longest(), 7);
        due("at the end", Given.numbers(9, 9, 1, 2).longest(), 2);
        due("at the beginning", Given.numbers(1, 2, 3, 3, 4).longest(), 3);
        due("the later one", Given.numbers(1, 2, 0, 1, 2).longest(), 3);
        due("of two", Given.numbers(0, 99).longest(), 2);
        due("without SOLD ones", Given.done(Given.swans(7), "x6").longest(), 6);
        due("of one that is left", Given.done(Given.swans(2), "x0").longest(), 1);
    }
}
