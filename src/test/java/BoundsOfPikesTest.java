/** Part 4 of the document (SIGHTS, FILLED, PIKES, YEARS, IMAGES, told): a method for each sentence that names a bound. */
public final class BoundsOfPikesTest {
    private static final int NONE = Given.NONE, UNKNOWN = Given.UNKNOWN, OUTSIDE = Given.OUTSIDE;
    private static final int FULL = Given.FULL, STATE = Given.STATE, NO = Given.NO;
    private static final int LEAST = Given.LEAST, MOST = Given.MOST;
    private static final int[] FAR = {LEAST, -1000, 1000, MOST};

    public static void main(String[] args) {
        sixSights();
        sightsOfSwans();
        sightsOfPlaces();
        sightsOfTheFirstAndTheLastPlace();
        sightsThatCanNotHold();
        forgetOfNoneAndAll();
        filledWithoutGaps();
        filledByDigits();
        filledTheFirst();
        filledOfThree();
        filledWhich();
        filledByNone();
        filledOfAFault();
        filledChangesNothing();
        pikesNoneToThree();
        pikesOfLessonsAndParts();
        pikesNeverAndAlways();
        pikesInLowestTerms();
        pikesOfOneAndSeven();
        yearOfSeeds();
        yearOfNoons();
        yearLeftOver();
        yearBehindTheEvent();
        yearOfWhat();
        yearOfSoldAndAlone();
        imagesAreTwo();
        imageKeepsAllButThePad();
        imageKeepsSights();
        imagesAreKeptApart();
        restoreOfWhatWasNot();
        restoreAgainAndAgain();
        toldOfNoneAndMany();
        toldOfWhat();
        Check.end("BoundsOfPikesTest");
    }

    private static void due(String call, long got, long want) {
        Check.due(call, got, want);
    }

    private static void sixSights() {
        Check.of("SIGHTS (6 at most)");
        SwanSums x = new SwanSums();
        for (int k = 1; k <= 6; k++) {
            due("seen, " + k, x.seen(k % 4, k % 4), k);
        }
        due("a seventh", x.seen(0, 0), FULL);
        due("one of old", x.seen(1, 1), FULL);
        due("told(3)", x.told(3), 6);
        due("all hold", x.filled(-1), 1);
        due("OUTSIDE ahead of FULL", x.seen(0, 7), OUTSIDE);
        due("UNKNOWN ahead of FULL", x.seen(4, 0), UNKNOWN);
        due("forget()", x.forget(), 6);
        due("the first again", x.seen(0, 0), 1);
        x = new SwanSums();
        for (int k = 1; k <= 5; k++) {
            x.seen(0, 0);
        }
        due("the sixth counts", x.seen(0, 1), 6);
        due("the sixth does not hold", x.filled(-1), 0);
    }

    private static void sightsOfSwans() {
        Check.of("seen: UNKNOWN: the SWAN (of all, SOLD ones too)");
        SwanSums x = Given.done(Given.swans(7), "x6x0");
        due("SWAN 0, SOLD", x.seen(0, 0), 1);
        due("SWAN 6, SOLD", x.seen(6, 0), 2);
        due("SWAN 7", x.seen(7, 0), UNKNOWN);
        due("SWAN -1", x.seen(-1, 0), UNKNOWN);
        for (int swan : FAR) {
            due("SWAN " + swan, x.seen(swan, 0), UNKNOWN);
            due("UNKNOWN ahead of OUTSIDE", x.seen(swan, -1), UNKNOWN);
        }
        due("SWAN 4 of four", new SwanSums().seen(4, 0), UNKNOWN);
        due("told(3)", x.told(3), 2);
    }

    private static void sightsOfPlaces() {
        Check.of("seen: OUTSIDE: the PLACE 0 to 6");
        SwanSums x = Given.swans(1);
        due("PLACE 0", x.seen(0, 0), 1);
        due("PLACE 6, though there is one SWAN", x.seen(0, 6), 2);
        due("PLACE 7", x.seen(0, 7), OUTSIDE);
        due("PLACE -1", x.seen(0, -1), OUTSIDE);
        for (int place : FAR) {
            due("PLACE " + place, x.seen(0, place), OUTSIDE);
        }
        due("told(3)", x.told(3), 2);
    }

    private static void sightsOfTheFirstAndTheLastPlace() {
        Check.of("SIGHTS: behind the DAY a SWAN is at a PLACE");
        SwanSums x = Given.swans(7);
        x.seen(0, 6);
        x.seen(6, 0);
        due("now it is not so", x.filled(-1), 0);
        due("behind RAIN", Given.day(x, "r").filled(-1), 1);
        due("behind RAIN and RAIN", Given.day(x, "rr").filled(-1), 0);
        due("behind two PIKES and BREAD", Given.day(x, "p0b5").filled(-1), 1);
        due("one of two holds", Given.day(x, "p0").filled(-1), 0);
        due("the other holds", Given.day(x, "b6").filled(-1), 0);
    }

    private static void sightsThatCanNotHold() {
        Check.of("SIGHTS that can not hold");
        SwanSums x = Given.done(new SwanSums(), "x3");
        x.seen(2, 3);
        due("nobody at the PLACE", Given.day(x, "b?").filled(-1), 0);
        x.forget();
        x.seen(3, 2);
        due("who is SOLD", Given.day(x, "b?").filled(-1), 0);
        x.forget();
        x.seen(2, 2);
        due("who is SOLD by the DAY", Given.day(x, "x2").filled(-1), 0);
        due("who is there", Given.day(x, "").filled(-1), 1);
        x.seen(0, 2);
        due("two at one PLACE", Given.day(x, "b?p?").filled(-1), 0);
        x.forget();
        x.seen(1, 0);
        x.seen(1, 1);
        due("one at two PLACES", Given.day(x, "b?p?").filled(-1), 0);
        for (int n = 1; n < 7; n++) {
            x = Given.swans(n);
            x.seen(0, n);
            due("SWAN 0 is not at the first PLACE where nobody is", x.filled(-1), 0);
            x.swans(n + 1);
            Given.done(x, "x0");
            x.seen(0, n);
            due("nor is it if it is SOLD", x.filled(-1), 0);
        }
        x = Given.done(Given.swans(2), "x0");
        x.seen(0, 6);
        due("nobody at PLACE 6", x.filled(-1), 0);
    }

    private static void forgetOfNoneAndAll() {
        Check.of("forget: SIGHTS go: how many there were");
        SwanSums x = new SwanSums();
        due("of none", x.forget(), 0);
        x.seen(0, 1);
        due("it does not hold", x.filled(-1), 0);
        due("of one", x.forget(), 1);
        due("none is left", x.filled(-1), 1);
        due("told(3)", x.told(3), 0);
        x.seen(1, 1);
        due("the old one is no more", x.filled(-1), 1);
        due("of one", x.forget(), 1);
        due("of none", x.forget(), 0);
    }

    private static void filledIs(SwanSums x, String text, int ways, String digits) {
        Given.day(x, text);
        due("filled(-1) of " + text, x.filled(-1), ways);
        for (int i = 0; i < digits.length(); i++) {
            due("filled(" + i + ") of " + text, x.filled(i), digits.charAt(i) - '0');
        }
        due("filled(" + digits.length() + ") of " + text, x.filled(digits.length()), NONE);
    }

    private static void filledWithoutGaps() {
        Check.of("FILLED: (without ?: 1 or 0 ways, no digit)");
        SwanSums x = new SwanSums();
        filledIs(x, "", 1, "");
        filledIs(x, "b3p3g2x3", 1, "");
        filledIs(x, "b4", 0, "");
        filledIs(x, "g3", 0, "");
        filledIs(x, "x0x0x0x0", 0, "");
        x.seen(3, 0);
        filledIs(x, "", 0, "");
        filledIs(x, "b3", 1, "");
    }

    private static void filledByDigits() {
        Check.of("FILLED: digits for all ? of the PAD so that all EVENTS can be");
        for (int n = 1; n <= 7; n++) {
            SwanSums x = Given.swans(n);
            filledIs(x, "b?", n, "0");
            filledIs(x, "p?", n, "0");
            filledIs(x, "g?", n - 1, n > 1 ? "0" : "");
            filledIs(x, "rb?", n, "0");
        }
        SwanSums x = Given.swans(7);
        filledIs(x, "x0b?", 6, "0");
        filledIs(x, "x0g?", 5, "0");
        filledIs(x, "b?x0g?", 7 * 5, "00");
        filledIs(x, "x0x0x0x0x0x0b?p?", 1, "00");
        x.seen(6, 0);
        filledIs(x, "b?", 1, "6");
        x.forget();
        x.seen(6, 5);
        filledIs(x, "g?", 1, "5");
        filledIs(x, "p?", 6, "0");
        x.forget();
        x.seen(5, 6);
        filledIs(x, "p?", 1, "5");
    }

    private static void filledTheFirst() {
        Check.of("FILLED: the first by digits");
        SwanSums x = new SwanSums();
        x.seen(1, 0);
        filledIs(x, "b?", 1, "1");
        filledIs(x, "b?b?", 4, "01");
        filledIs(x, "p?b?", 4, "00");
        filledIs(x, "b?p?", 4, "00");
        filledIs(x, "g?b?", 3, "00");
        filledIs(x, "rb?", 1, "2");
        filledIs(x, "rb?g?", 2, "21");
        filledIs(x, "b0b?", 1, "1");
    }

    private static void filledOfThree() {
        Check.of("FILLED of three ?");
        SwanSums x = Given.swans(7);
        filledIs(x, "b?b?b?", 343, "000");
        filledIs(x, "g?g?g?", 216, "000");
        x.seen(6, 0);
        x.seen(5, 1);
        x.seen(4, 2);
        filledIs(x, "b?b?b?", 1, "456");
        x.seen(3, 3);
        filledIs(x, "b?b?b?", 0, "");
        filledIs(x, "b?b?b?b0", 0, "");
        filledIs(x, "b?b?b?b6", 1, "345");
        filledIs(x, "b3b?b?b?", 1, "456");
    }

    private static void filledWhich() {
        Check.of("filled: how many ways (i = -1), the i-th digit of the first; NONE (i below -1, too)");
        SwanSums x = Given.day(new SwanSums(), "b?p?");
        due("filled(-1)", x.filled(-1), 16);
        due("filled(0)", x.filled(0), 0);
        due("filled(1)", x.filled(1), 0);
        due("filled(2)", x.filled(2), NONE);
        due("filled(3)", x.filled(3), NONE);
        due("filled(-2)", x.filled(-2), NONE);
        for (int i : FAR) {
            due("filled(" + i + ")", x.filled(i), NONE);
        }
    }

    private static void filledByNone() {
        Check.of("filled: NONE, if there is no way");
        SwanSums x = Given.day(new SwanSums(), "b9b?");
        due("filled(-1)", x.filled(-1), 0);
        due("filled(0)", x.filled(0), NONE);
        due("filled(-2)", x.filled(-2), NONE);
        Given.day(x, "b?b4");
        due("what can not be behind it", x.filled(-1), 0);
        due("filled(0)", x.filled(0), NONE);
    }

    private static void filledOfAFault() {
        Check.of("filled: NO: there is a FAULT");
        SwanSums x = new SwanSums();
        for (String text : new String[] {"b", "z", "b?b", "x?", "b?b?b?b?", "b9b"}) {
            Given.day(x, text);
            due("filled(-1) of " + text, x.filled(-1), NO);
            due("filled(0) of " + text, x.filled(0), NO);
            due("filled(9) of " + text, x.filled(9), NO);
            due("filled(-2) of " + text, x.filled(-2), NO);
        }
    }

    private static void filledChangesNothing() {
        Check.of("FILLED tells, and does nothing");
        SwanSums x = Given.day(new SwanSums(), "rb?");
        x.seen(0, 0);
        due("filled(0)", x.filled(0), 3);
        due("there is some ? still", x.judge(), STATE);
        Check.due("THE ROW stays", Given.row(x), "0123");
        due("SIGHTS stay", x.told(3), 1);
    }

    private static void pikesIs(SwanSums x, int lesson, int m, long upper, long lower) {
        due("pikes(" + lesson + ", " + m + ", 0)", x.pikes(lesson, m, 0), upper);
        due("pikes(" + lesson + ", " + m + ", 1)", x.pikes(lesson, m, 1), lower);
    }

    private static void pikesNoneToThree() {
        Check.of("PIKES by chance: m times (0 to 3)");
        SwanSums x = new SwanSums();
        pikesIs(x, 0, 0, 1, 1);
        pikesIs(x, 2, 0, 0, 1);
        pikesIs(x, 0, 1, 1, 4);
        pikesIs(x, 2, 1, 1, 4);
        pikesIs(x, 0, 3, 5, 64);
        for (int part = 0; part <= 1; part++) {
            due("pikes(0, 4, " + part + ")", x.pikes(0, 4, part), Given.LOST + OUTSIDE);
            due("pikes(0, -1, " + part + ")", x.pikes(0, -1, part), Given.LOST + OUTSIDE);
            for (int m : FAR) {
                due("pikes(0, " + m + ", " + part + ")", x.pikes(0, m, part), Given.LOST + OUTSIDE);
            }
        }
        Check.due("THE ROW stays", Given.row(x), "0123");
    }

    private static void pikesOfLessonsAndParts() {
        Check.of("pikes: OUTSIDE; refused with LOST and the refusal");
        SwanSums x = new SwanSums();
        long outside = -1000000000000000002L;
        due("pikes(6, 3, 1)", x.pikes(6, 3, 1), 64);
        due("pikes(7, 3, 1)", x.pikes(7, 3, 1), outside);
        due("pikes(-1, 0, 0)", x.pikes(-1, 0, 0), outside);
        due("pikes(0, 0, 2)", x.pikes(0, 0, 2), outside);
        due("pikes(0, 0, -1)", x.pikes(0, 0, -1), outside);
        due("all three", x.pikes(7, 4, 2), outside);
        for (int far : FAR) {
            due("pikes(" + far + ", 0, 0)", x.pikes(far, 0, 0), outside);
            due("pikes(0, 0, " + far + ")", x.pikes(0, 0, far), outside);
        }
    }

    private static void pikesNeverAndAlways() {
        Check.of("PIKES by chance: never: 0 by 1; always: 1 by 1");
        for (int m = 0; m <= 3; m++) {
            pikesIs(Given.numbers(2, 4, 6), 4, m, 0, 1);
            pikesIs(Given.numbers(2, 4, 6), 1, m, 1, 1);
            pikesIs(Given.numbers(0, 0, 0, 0, 0, 0, 0), 2, m, 0, 1);
            pikesIs(Given.numbers(0, 0, 0, 0, 0, 0, 0), 6, m, 1, 1);
        }
    }

    private static void pikesInLowestTerms() {
        Check.of("Fractions are told in lowest terms");
        pikesIs(Given.numbers(2, 4, 5, 7), 2, 1, 3, 4);
        pikesIs(Given.numbers(4, 2, 4, 4), 2, 1, 1, 4);
        pikesIs(Given.numbers(1, 2), 0, 1, 1, 2);
        pikesIs(Given.numbers(1, 2), 0, 2, 1, 2);
        pikesIs(Given.numbers(1, 2), 0, 3, 1, 2);
        pikesIs(Given.numbers(4, 5, 6, 6), 4, 1, 0, 1);
        pikesIs(Given.numbers(4, 2, 3), 2, 1, 1, 3);
        pikesIs(new SwanSums(), 4, 3, 11, 32);
    }

    private static void pikesOfOneAndSeven() {
        Check.of("a PIKE at a PLACE, each as likely: of one SWAN, of seven");
        pikesIs(Given.numbers(3), 2, 3, 1, 1);
        pikesIs(Given.numbers(3), 6, 3, 0, 1);
        pikesIs(Given.numbers(4, 2, 4, 4, 4, 4, 4), 2, 1, 1, 7);
        pikesIs(Given.numbers(4, 4, 2, 4, 4, 4, 4), 2, 1, 0, 1);
        pikesIs(Given.numbers(4, 4, 2, 4, 4, 4, 4), 2, 2, 2, 49);
        pikesIs(Given.swans(7), 0, 3, 5, 343);
        pikesIs(Given.done(Given.swans(7), "x6x5x4x3x2"), 0, 1, 1, 2);
    }

    private static void yearOfSeeds() {
        Check.of("A YEAR by a seed (0 to 9999)");
        SwanSums x = new SwanSums();
        // 0 leads to 74, 9999 to 29092: BREAD at 37 and at 14546, left over by 4.
        due("year(0, 1, 11)", x.year(0, 1, 11), 1);
        due("year(9999, 1, 12)", x.year(9999, 1, 12), 1);
        due("year(-1, 1, 12)", x.year(-1, 1, 12), OUTSIDE);
        due("year(10000, 1, 12)", x.year(10000, 1, 12), OUTSIDE);
        for (int seed : new int[] {LEAST, -1000, 65537, MOST}) {
            due("year(" + seed + ", 1, 12)", x.year(seed, 1, 12), OUTSIDE);
        }
    }

    private static void yearOfNoons() {
        Check.of("A YEAR of m noons (1 to 99)");
        SwanSums x = Given.numbers(2, 2, 2, 2);
        due("year(5, 1, 2)", x.year(5, 1, 2), 1);
        due("year(5, 98, 2)", x.year(5, 98, 2), 98);
        due("year(5, 99, 2)", x.year(5, 99, 2), 99);
        due("year(5, 0, 2)", x.year(5, 0, 2), OUTSIDE);
        due("year(5, 100, 2)", x.year(5, 100, 2), OUTSIDE);
        due("year(5, -1, 2)", x.year(5, -1, 2), OUTSIDE);
        for (int m : FAR) {
            due("year(5, " + m + ", 2)", x.year(5, m, 2), OUTSIDE);
        }
    }

    private static void yearLeftOver() {
        Check.of("A YEAR: x becomes (75 x and 74) left over by 65537");
        SwanSums x = new SwanSums();
        // 872 leads to 65474, the greatest below 65537: BREAD at 32737, left over by 4.
        due("year(872, 1, 11)", x.year(872, 1, 11), 1);
        // 873 leads to 65549, which leaves 12: BREAD at 6, left over by 4.
        due("year(873, 1, 12)", x.year(873, 1, 12), 1);
        // 874 leads to 87, which is odd: a PIKE at 43, left over by 4: nobody moves.
        due("year(874, 1, 10)", x.year(874, 1, 10), 1);
        due("year(874, 1, 0)", x.year(874, 1, 0), 1);
        // 1 leads to 149, which is odd: a PIKE at 74, left over by 4.
        due("year(1, 1, 10)", x.year(1, 1, 10), 1);
        due("year(1, 1, 0)", x.year(1, 1, 0), 0);
    }

    private static void yearBehindTheEvent() {
        Check.of("A YEAR: behind it noon; from THE ROW as it is");
        SwanSums x = new SwanSums();
        due("it is TAUGHT ahead of it", x.taught(0) & 1, 1);
        due("it is not behind it", x.year(0, 1, 0), 0);
        due("the first one is a prime then", x.year(0, 1, 2), 1);
        Check.due("THE ROW stays", Given.row(x), "0123");
        Given.done(x, "r");
        due("from the row turned round", x.year(0, 1, 12), 1);
        due("from the row turned round", x.year(0, 1, 11), 0);
    }

    private static void yearOfWhat() {
        Check.of("year: LESSON (0 to 6); 10 and a SWAN (of all); OUTSIDE");
        SwanSums x = Given.swans(7);
        // 0 leads to 74: BREAD at 37, left over by 7; 5 leads to 449: a PIKE at 224, left over by 7.
        due("year(0, 1, 12)", x.year(0, 1, 12), 1);
        due("year(5, 1, 11)", x.year(5, 1, 11), 1);
        due("year(0, 1, 0)", x.year(0, 1, 0), 0);
        due("year(0, 1, 2), 3 is first", x.year(0, 1, 2), 1);
        due("year(0, 1, 6)", x.year(0, 1, 6), 0);
        due("year(0, 1, 10)", x.year(0, 1, 10), 0);
        due("year(0, 1, 16)", x.year(0, 1, 16), 0);
        for (int of : new int[] {-1, 7, 8, 9, 17, 18, LEAST, LEAST + 9, MOST}) {
            due("year(0, 1, " + of + ")", x.year(0, 1, of), OUTSIDE);
        }
        due("year(0, 1, 14) of four", new SwanSums().year(0, 1, 14), OUTSIDE);
        due("LESSON 6", Given.numbers(0, 0).year(0, 99, 6), 99);
    }

    private static void yearOfSoldAndAlone() {
        Check.of("year: of a SOLD one 0");
        SwanSums x = Given.done(Given.swans(7), "x0x5");
        due("SWAN 0", x.year(0, 99, 10), 0);
        due("SWAN 6", x.year(0, 99, 16), 0);
        int first = 0;
        for (int swan = 1; swan <= 5; swan++) {
            first += x.year(0, 99, 10 + swan);
        }
        due("the others", first, 99);
        Given.done(x, "x4x3x2x1");
        due("the last one", x.year(0, 99, 11), 99);
        due("a SOLD one", x.year(0, 99, 12), 0);
        due("LESSON 0 of the last one", x.year(9999, 99, 0), 99);
    }

    private static void imagesAreTwo() {
        Check.of("an IMAGE (0, 1): OUTSIDE");
        SwanSums x = new SwanSums();
        for (int n : new int[] {-1, 2, LEAST, MOST}) {
            due("image(" + n + ")", x.image(n), OUTSIDE);
            due("restore(" + n + ")", x.restore(n), OUTSIDE);
        }
        due("none is kept by it", x.restore(0), STATE);
        due("none is kept by it", x.restore(1), STATE);
        due("image(0)", x.image(0), 1);
        due("image(1)", x.image(1), 1);
        due("restore(0)", x.restore(0), 1);
        due("restore(1)", x.restore(1), 1);
        due("restore(2)", x.restore(2), OUTSIDE);
        due("restore(-1)", x.restore(-1), OUTSIDE);
    }

    private static void imageKeepsAllButThePad() {
        Check.of("image: All but the PAD is kept; restore: It is as it was");
        for (int n = 0; n <= 1; n++) {
            SwanSums x = Given.done(Given.numbers(9, 0, 99, 5, 7, 3), "rx0");
            x.seen(4, 0);
            x.seen(5, 6);
            Given.day(x, "b?");
            due("image(" + n + ")", x.image(n), 1);
            x.swans(7);
            x.seen(0, 0);
            Given.done(x, "r");
            Given.day(x, "b0z");
            due("restore(" + n + ")", x.restore(n), 1);
            due("told(1)", x.told(1), 6);
            Check.due("THE ROW", Given.row(x), "43210");
            due("a NUMBER", x.told(10), 9);
            due("a NUMBER of a SOLD one", x.told(15), 3);
            due("no SWAN 6", x.told(16), OUTSIDE);
            due("SIGHTS", x.told(3), 2);
            due("the PAD stays", x.told(0), 3);
            due("the PAD stays", x.fault(), 2);
            Given.day(x, "");
            due("a SIGHT that does not hold", x.filled(-1), 0);
        }
    }

    private static void imageKeepsSights() {
        Check.of("image: SIGHTS are kept as they were");
        for (int n = 0; n <= 1; n++) {
            SwanSums x = new SwanSums();
            x.seen(3, 0);
            x.seen(1, 2);
            x.image(n);
            x.forget();
            x.seen(0, 0);
            x.restore(n);
            due("now they do not hold", x.filled(-1), 0);
            due("behind RAIN they do", Given.day(x, "r").filled(-1), 1);
            due("behind BREAD they do", Given.day(x, "b3").filled(-1), 1);
            due("behind BREAD and a GUST one does not", Given.day(x, "b3g2").filled(-1), 0);
        }
    }

    private static void imagesAreKeptApart() {
        Check.of("IMAGES 0 and 1 are kept apart");
        SwanSums x = Given.swans(2);
        x.image(0);
        x.swans(3);
        x.image(1);
        x.swans(5);
        due("restore(0)", x.restore(0), 1);
        due("told(1)", x.told(1), 2);
        due("restore(1)", x.restore(1), 1);
        due("told(1)", x.told(1), 3);
        due("image(0) anew", x.image(0), 1);
        x.swans(6);
        due("restore(0)", x.restore(0), 1);
        due("the newer one", x.told(1), 3);
    }

    private static void restoreOfWhatWasNot() {
        Check.of("restore: STATE: it was not");
        SwanSums x = Given.done(new SwanSums(), "r");
        due("restore(0)", x.restore(0), STATE);
        due("restore(1)", x.restore(1), STATE);
        Check.due("THE ROW stays", Given.row(x), "3210");
        x.image(1);
        due("restore(0)", x.restore(0), STATE);
        due("restore(1)", x.restore(1), 1);
        x = new SwanSums();
        x.image(0);
        due("restore(1)", x.restore(1), STATE);
        due("restore(0)", x.restore(0), 1);
        x.swans(7);
        due("an IMAGE outlives swans", x.restore(0), 1);
        due("told(1)", x.told(1), 4);
    }

    private static void restoreAgainAndAgain() {
        Check.of("restore: an IMAGE stays as it was kept");
        SwanSums x = new SwanSums();
        x.seen(0, 0);
        x.image(0);
        for (int k = 0; k < 2; k++) {
            x.number(0, 50 + k);
            x.forget();
            Given.done(x, "x0");
            due("restore(0)", x.restore(0), 1);
            due("told(10)", x.told(10), 1);
            due("told(3)", x.told(3), 1);
            Check.due("THE ROW", Given.row(x), "0123");
        }
        for (int k = 2; k <= 6; k++) {
            due("seen", x.seen(0, 0), k);
        }
        due("a seventh", x.seen(0, 0), FULL);
        x.restore(0);
        due("seen", x.seen(0, 0), 2);
    }

    private static void toldOfNoneAndMany() {
        Check.of("told: 0 signs, 1 SWANS of all, 2 those in THE ROW, 3 SIGHTS");
        SwanSums x = Given.swans(1);
        due("told(0)", x.told(0), 0);
        due("told(1)", x.told(1), 1);
        due("told(2)", x.told(2), 1);
        due("told(3)", x.told(3), 0);
        x = Given.done(Given.swans(7), "x0x0x0x0x0x0");
        for (int k = 0; k < 6; k++) {
            x.seen(k, 6);
        }
        Given.day(x, "z".repeat(60));
        due("told(0)", x.told(0), 60);
        due("told(1)", x.told(1), 7);
        due("told(2)", x.told(2), 1);
        due("told(3)", x.told(3), 6);
    }

    private static void toldOfWhat() {
        Check.of("told: 10 on NUMBERS of SWANS. OUTSIDE");
        SwanSums x = Given.numbers(0, 1, 2, 3, 4, 5, 99);
        due("told(10)", x.told(10), 0);
        due("told(16)", x.told(16), 99);
        for (int what : new int[] {-1, 4, 5, 8, 9, 17, 18, LEAST, LEAST + 9, MOST}) {
            due("told(" + what + ")", x.told(what), OUTSIDE);
        }
        Given.done(x, "x6");
        due("told(16), a SOLD one", x.told(16), 99);
        x.swans(4);
        due("told(13)", x.told(13), 4);
        due("told(14)", x.told(14), OUTSIDE);
        due("told(10)", Given.swans(1).told(10), 1);
        due("told(11)", Given.swans(1).told(11), OUTSIDE);
    }
}
