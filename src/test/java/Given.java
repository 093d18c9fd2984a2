/** Objects in the states that tests need, and all that can be asked of one. */
final class Given {
    static final int NONE = -6, UNKNOWN = -1, OUTSIDE = -2, STATE = -3, FULL = -4, NO = -5;
    static final long LOST = -1000000000000000000L;
    static final int LEAST = Integer.MIN_VALUE, MOST = Integer.MAX_VALUE;

    /** One call of the face. */
    interface Ask {
        long of(SwanSums x);
    }

    private Given() {
    }

    static SwanSums swans(int n) {
        SwanSums x = new SwanSums();
        Check.holds("there can be " + n + " SWANS", x.swans(n) == 4);
        return x;
    }

    /** A new object with as many SWANS, which wear these NUMBERS. */
    static SwanSums numbers(int... numbers) {
        SwanSums x = swans(numbers.length);
        for (int k = 0; k < numbers.length; k++) {
            x.number(k, numbers[k]);
        }
        return x;
    }

    /** Just this text on the PAD. */
    static SwanSums day(SwanSums x, String text) {
        x.wipe();
        for (int k = 0; k < text.length(); k++) {
            x.say(text.charAt(k));
        }
        return x;
    }

    static SwanSums done(SwanSums x, String text) {
        day(x, text);
        Check.holds("the DAY " + text + " can be DONE", x.done() >= 0);
        return x;
    }

    /** The SWANS past the window, a digit each. */
    static String row(SwanSums x) {
        StringBuilder row = new StringBuilder();
        for (int place = 0; place < 7 && x.at(place) >= 0; place++) {
            row.append(x.at(place));
        }
        return row.toString();
    }

    /** The SWANS behind this DAY, a digit each; or the refusal. */
    static String rowBehind(SwanSums x, String text) {
        int many = day(x, text).behind(-1);
        if (many < 0) {
            return Integer.toString(many);
        }
        StringBuilder row = new StringBuilder();
        for (int place = 0; place < many; place++) {
            row.append(x.behind(place));
        }
        return row.toString();
    }

    /**
     * All that an object knows, as far as calls can tell it; the object is used up by
     * this, as the IMAGES are restored and the PAD is wiped.
     */
    static String whole(SwanSums x) {
        StringBuilder s = new StringBuilder();
        tellPad(x, s);
        tellFlock(x, s);
        for (int n = 0; n < 2; n++) {
            s.append(" image").append(n).append(' ').append(x.restore(n));
            tellFlock(x, s);
        }
        return s.toString();
    }

    private static void tellPad(SwanSums x, StringBuilder s) {
        s.append("pad ").append(x.told(0)).append(' ').append(x.fault()).append(' ').append(x.judge());
        s.append(' ').append(x.taught(1));
        for (int place = -1; place < 7; place++) {
            s.append(' ').append(x.behind(place));
        }
        for (int i = -1; i < 3; i++) {
            s.append(' ').append(x.filled(i));
        }
    }

    private static void tellFlock(SwanSums x, StringBuilder s) {
        s.append(" row ").append(row(x)).append(" numbers");
        for (int k = 10; k < 17; k++) {
            s.append(' ').append(x.told(k));
        }
        s.append(" told ").append(x.told(1)).append(' ').append(x.told(2)).append(" sights ").append(x.told(3));
        for (String text : new String[] {"", "r", "p?p?p?", "b?b?b?"}) {
            s.append(' ').append(day(x, text).filled(-1)).append(' ').append(x.filled(0));
        }
    }
}
