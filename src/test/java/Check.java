/** Counts answers that are not the due ones; every test class of the project uses it. */
final class Check {
    private static int asked = 0;
    private static int wrong = 0;
    private static String of = "";

    private Check() {
    }

    /** The sentence of the document, or the promise, that the next answers are due by. */
    static void of(String sentence) {
        of = sentence.isEmpty() ? "" : sentence + ": ";
    }

    static void due(String call, long got, long want) {
        due(call, Long.toString(got), Long.toString(want));
    }

    static void due(String call, String got, String want) {
        asked++;
        if (!got.equals(want)) {
            wrong++;
            if (wrong <= 50) {
                System.out.println(of + call + " answered " + got + ", due is " + want);
            }
        }
    }

    static void holds(String what, boolean it) {
        asked++;
        if (!it) {
            wrong++;
            System.out.println(of + "does not hold: " + what);
        }
    }

    static void end(String test) {
        System.out.println(test + ": " + asked + " answers, " + wrong + " not as due");
        if (wrong != 0 || asked == 0) {
            System.exit(1);
        }
    }
}
