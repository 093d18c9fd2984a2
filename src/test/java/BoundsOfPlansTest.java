import java.util.ArrayList;
import java.util.Arrays;
import java.util.HashMap;
import java.util.List;
import java.util.Map;

/** Part 3 of the document (PLAN, WEEK, SELL, WORN, RIVALS): a method for each sentence that names a bound. */
public final class BoundsOfPlansTest {
    private static final int NONE = Given.NONE, UNKNOWN = Given.UNKNOWN, OUTSIDE = Given.OUTSIDE;
    private static final int LEAST = Given.LEAST, MOST = Given.MOST;

    public static void main(String[] args) {
        planOfNoEvents();
        planOfOneSwan();
        planOfTwoSwans();
        planByNone();
        planWithoutSold();
        planInAllOrders();
        planOfEachOrderOfSeven();
        planOfMoreAndFewer();
        planInTheOrderOfEvents();
        planAtTheLastPlaces();
        planOfLessons();
        planOfWhich();
        planChangesNothing();
        weekOfOneToFour();
        weekOfNumbers();
        weekOfLessons();
        weekOfNoEvents();
        weekInTurn();
        weekOfOneLessonAsPlan();
        weekNotLegByLeg();
        weekThatCanNotBe();
        sellOfFew();
        sellOfManySwans();
        sellOfLessons();
        wornLeastAndGreatest();
        wornByNoneAndAll();
        wornOfSwans();
        wornOfLessonsAndWhat();
        wornLeavesNumbers();
        rivalsOfFew();
        rivalsOfMuchAndNothing();
        rivalsAsGood();
        rivalsWhat();
        Check.end("BoundsOfPlansTest");
    }

    private static void due(String call, long got, long want) {
        Check.due(call, got, want);
    }

    private static void planIs(SwanSums x, int lesson, int... events) {
        due("plan(" + lesson + ", -1)", x.plan(lesson, -1), events.length);
        for (int i = 0; i < events.length; i++) {
            due("plan(" + lesson + ", " + i + ")", x.plan(lesson, i), events[i]);
        }
        due("plan(" + lesson + ", " + events.length + "), not so many", x.plan(lesson, events.length), NONE);
    }

    private static void planOfNoEvents() {
        Check.of("PLAN: the fewest EVENTS: none, where the LESSON is TAUGHT now");
        planIs(new SwanSums(), 0);
        planIs(new SwanSums(), 4);
        planIs(Given.swans(7), 0);
        planIs(Given.numbers(0, 0, 0, 0, 0, 0, 0), 6);
        planIs(Given.done(Given.numbers(3, 2, 1), "r"), 0);
    }

    private static void planOfOneSwan() {
        Check.of("PLAN of one SWAN alone: none, or by none");
        SwanSums x = Given.done(Given.swans(4), "x3x2x1");
        for (int lesson : new int[] {0, 1, 3, 4, 5}) {
            planIs(x, lesson);
        }
        for (int lesson : new int[] {2, 6}) {
            due("plan(" + lesson + ", -1)", x.plan(lesson, -1), NONE);
            due("plan(" + lesson + ", 0)", x.plan(lesson, 0), NONE);
        }
    }

    private static void planOfTwoSwans() {
        Check.of("PLAN of two SWANS: BREAD is the first EVENT of four that lead there");
        planIs(Given.numbers(2, 1), 0, 1);
        planIs(Given.numbers(1, 2), 1, 1);
        planIs(Given.numbers(4, 7), 2, 1);
        planIs(Given.numbers(7, 4), 2);
    }

    private static void byNone(int lesson, int... numbers) {
        SwanSums x = Given.numbers(numbers);
        for (int i : new int[] {-2, -1, 0, 1, LEAST, MOST}) {
            due("plan(" + lesson + ", " + i + ")", x.plan(lesson, i), NONE);
        }
    }

    private static void planByNone() {
        Check.of("plan: NONE: by none");
        byNone(0, 5, 5);
        byNone(0, 9, 3, 3, 1);
        byNone(0, 1, 2, 3, 4, 5, 6, 6);
        byNone(2, 1, 4);
        byNone(2, 99, 98, 0, 96, 95, 94, 93);
        byNone(3, 1, 1);
        byNone(3, 2, 3, 3);
        byNone(3, 2, 2, 2, 2, 2, 2, 2);
        byNone(4, 8, 2, 6, 4);
        byNone(4, 1, 2, 3, 4, 6, 6, 8);
        byNone(5, 4, 6);
        byNone(5, 2, 3, 5);
        byNone(5, 1, 2, 3, 5, 7, 11, 13);
        byNone(6, 1, 2);
        byNone(6, 1, 2, 5);
        byNone(6, 1, 2, 4, 8, 16, 32, 65);
        due("LESSON 1 can be of all", Given.numbers(1, 3, 5, 7, 9, 11, 2).plan(1, -1), 1);
    }

    private static void planWithoutSold() {
        Check.of("PLAN: the fewest EVENTS (but SOLD)");
        SwanSums x = Given.numbers(1, 2, 2);
        due("the row can not rise", x.plan(0, -1), NONE);
        due("SOLD, it would", x.sell(0), 6);
        due("nobody is SOLD by it", x.told(2), 3);
        x = Given.numbers(2, 1, 1, 1);
        due("one even one among three odd ones", x.plan(4, -1), NONE);
        due("in a week", x.week(4, 1), NONE);
        due("without any one of them", x.sell(4), 0);
        x = Given.numbers(4, 9, 4);
        due("no order comes to as much", x.plan(6, -1), NONE);
        due("without the second one it does", x.sell(6), 2);
        x = Given.numbers(1, 4, 2, 3, 5);
        due("two EVENTS, though one SOLD would do", x.plan(0, -1), 2);
        due("two EVENTS, in a week", x.week(0, 1), 2);
        due("without the second one it rises", x.sell(0), 2);
        due("two EVENTS, till 3 and 2 are ahead", Given.numbers(0, 3, 4, 1, 2).week(6, 1), 2);
        due("two EVENTS, till 4 stands by 8 and 3 by 1", Given.numbers(2, 1, 4, 3, 8).week(5, 1), 2);
    }

    private static void ordersOf(int size, String row, List<String> all) {
        if (row.length() == size) {
            all.add(row);
        }
        for (int v = 1; v <= size; v++) {
            if (row.indexOf('0' + v) < 0) {
                ordersOf(size, row + v, all);
            }
        }
    }

    private static void planInAllOrders() {
        Check.of("PLAN: (THE ROW may be as told by such EVENTS in all orders.)");
        for (int size = 1; size <= 7; size++) {
            List<String> all = new ArrayList<>();
            ordersOf(size, "", all);
            int step = size < 6 ? 1 : size == 6 ? 17 : 211;
            for (int k = 0; k < all.size(); k += step) {
                planAsNaive(all.get(k));
            }
            planAsNaive(all.get(all.size() - 1));
        }
        planIs(Given.numbers(7, 6, 4, 3, 1, 2, 5), 0, planOfNaive("7643125"));
        due("the farthest order", Given.numbers(7, 6, 4, 3, 1, 2, 5).plan(0, -1), 5);
    }

    private static int[] numbersOf(String order) {
        int[] numbers = new int[order.length()];
        for (int k = 0; k < numbers.length; k++) {
            numbers[k] = order.charAt(k) - '0';
        }
        return numbers;
    }

    private static int[] planOfNaive(String order) {
        Naive y = new Naive();
        y.swans(order.length());
        for (int k = 0; k < order.length(); k++) {
            y.number(k, order.charAt(k) - '0');
        }
        int[] events = new int[y.plan(0, -1)];
        for (int i = 0; i < events.length; i++) {
            events[i] = y.plan(0, i);
        }
        return events;
    }

    private static void planAsNaive(String order) {
        SwanSums x = Given.numbers(numbersOf(order));
        planIs(x, 0, planOfNaive(order));
        StringBuilder day = new StringBuilder();
        for (int i = 0; i < x.plan(0, -1); i++) {
            int event = x.plan(0, i);
            day.append("bprg".charAt(event / 10)).append(event == 20 ? "" : Integer.toString(event % 10));
        }
        due("taught(1) behind " + day + ", of " + order, Given.day(x, day.toString()).taught(1) & 1, 1);
    }

    private static String behindEvent(String row, int sort, int place) {
        String rest = sort < 2 ? row.substring(0, place) + row.substring(place + 1) : "";
        switch (sort) {
            case 0:
                return row.charAt(place) + rest;
            case 1:
                return rest + row.charAt(place);
            case 2:
                return new StringBuilder(row).reverse().toString();
            default:
                return row.substring(0, place) + row.charAt(place + 1) + row.charAt(place) + row.substring(place + 2);
        }
    }

    /** How many EVENTS lead from the row as at first to each order. */
    private static Map<String, Integer> distances(String first) {
        Map<String, Integer> far = new HashMap<>();
        List<String> rows = new ArrayList<>();
        far.put(first, 0);
        rows.add(first);
        for (int head = 0; head < rows.size(); head++) {
            String row = rows.get(head);
            for (int sort = 0; sort < 4; sort++) {
                int places = sort < 2 ? row.length() : sort == 2 ? 1 : row.length() - 1;
                for (int place = 0; place < places; place++) {
                    String next = behindEvent(row, sort, place);
                    if (!far.containsKey(next)) {
                        far.put(next, far.get(row) + 1);
                        rows.add(next);
                    }
                }
            }
        }
        return far;
    }

    /** SWAN k wears such a NUMBER that the row rises just where the SWANS stand in this order. */
    private static void planOfEachOrderOfSeven() {
        Check.of("PLAN: each of the 5040 orders of seven SWANS");
        Map<String, Integer> far = distances("0123456");
        due("orders", far.size(), 5040);
        SwanSums x = Given.swans(7);
        int calls = 1;
        for (String order : far.keySet()) {
            if (calls + 8 > 512) {
                x = Given.swans(7);
                calls = 1;
            }
            for (int place = 0; place < 7; place++) {
                x.number(order.charAt(place) - '0', place);
            }
            due("plan(0, -1), which leads to " + order, x.plan(0, -1), far.get(order));
            calls += 8;
        }
    }

    private static void planOfMoreAndFewer() {
        Check.of("PLAN of more SWANS and of fewer, one behind the other");
        SwanSums x = new SwanSums();
        for (int n : new int[] {7, 2, 6, 1, 5, 3, 4, 7, 6, 5, 4, 3, 2, 1, 2, 3, 4, 5, 6, 7}) {
            x.swans(n);
            x.number(0, 2 * n);
            planIs(x, 0, n < 2 ? new int[0] : new int[] {n < 3 ? 1 : 10});
            due("week(0, 1) of " + n, x.week(0, 1), n < 2 ? 0 : 1);
        }
        x.swans(7);
        for (int n = 7; n >= 2; n--) {
            Given.done(x, "r");
            planIs(x, 0, n < 3 ? 1 : 20);
            Given.done(x, "rx0");
        }
    }

    private static void planInTheOrderOfEvents() {
        Check.of("PLAN: of rows of so few the first, in the order BREAD, a PIKE, RAIN, a GUST, each at 0, 1, ..");
        // BREAD at 1 and at 2 would do, BREAD and a PIKE, BREAD and RAIN, BREAD and a GUST,
        planIs(Given.numbers(4, 2, 3), 2, 1);
        planIs(Given.numbers(7, 6, 4, 3), 6, 3);
        planIs(Given.numbers(4, 4, 2), 2, 2);
        planIs(Given.numbers(2, 1, 7), 4, 1);
        // a PIKE at 0 and at 1, a PIKE and RAIN, a PIKE and a GUST;
        planIs(Given.numbers(8, 6, 5), 4, 10);
        planIs(Given.numbers(5, 6, 4), 1, 10);
        planIs(Given.numbers(1, 4, 6, 5), 0, 12);
        // and just one EVENT of each sort.
        planIs(Given.numbers(2, 3, 1), 0, 2);
        planIs(Given.numbers(3, 1, 2), 0, 10);
        planIs(Given.numbers(4, 3, 2, 1), 0, 20);
        planIs(Given.numbers(1, 3, 2, 4), 0, 31);
        planIs(Given.numbers(2, 1, 4, 3), 0, 1, 12);
    }

    private static void planAtTheLastPlaces() {
        Check.of("PLAN: the last PLACE of each sort of EVENT");
        planIs(Given.numbers(2, 3, 4, 5, 6, 7, 1), 0, 6);
        planIs(Given.numbers(7, 1, 2, 3, 4, 5, 6), 0, 10);
        planIs(Given.numbers(1, 2, 3, 4, 5, 7, 6), 0, 15);
        planIs(Given.numbers(2, 1, 3, 4, 5, 6, 7), 0, 1);
        planIs(Given.numbers(7, 6, 5, 4, 3, 2, 1), 0, 20);
        planIs(Given.numbers(1, 3, 2, 4, 5, 6, 7), 0, 31);
        planIs(Given.numbers(1, 2, 3, 4, 6, 5, 7), 0, 34);
    }

    private static void planOfLessons() {
        Check.of("plan: OUTSIDE: LESSONS 0 to 6");
        SwanSums x = new SwanSums();
        due("plan(0, -1)", x.plan(0, -1), 0);
        due("plan(6, -1)", x.plan(6, -1), 1);
        for (int i : new int[] {-2, -1, 0, MOST}) {
            due("plan(7, " + i + ")", x.plan(7, i), OUTSIDE);
            due("plan(-1, " + i + ")", x.plan(-1, i), OUTSIDE);
            due("plan(LEAST, " + i + ")", x.plan(LEAST, i), OUTSIDE);
            due("plan(MOST, " + i + ")", x.plan(MOST, i), OUTSIDE);
        }
    }

    private static void planOfWhich() {
        Check.of("plan: how many (i = -1), the i-th; NONE: not so many (i below -1, too)");
        SwanSums x = Given.swans(7);
        due("plan(1, -1)", x.plan(1, -1), 3);
        due("plan(1, 0)", x.plan(1, 0), 1);
        due("plan(1, 2)", x.plan(1, 2), 5);
        due("plan(1, 3)", x.plan(1, 3), NONE);
        due("plan(1, -2)", x.plan(1, -2), NONE);
        due("plan(1, LEAST)", x.plan(1, LEAST), NONE);
        due("plan(1, MOST)", x.plan(1, MOST), NONE);
    }

    private static void planChangesNothing() {
        Check.of("plan and week tell, and do nothing");
        SwanSums x = Given.day(Given.swans(7), "rz");
        x.plan(1, -1);
        x.week(1313, 4);
        Check.due("THE ROW stays", Given.row(x), "0123456");
        due("the PAD stays", x.fault(), 1);
        Given.done(x, "x6");
        due("of fewer SWANS", x.plan(0, -1), 0);
        Given.done(x, "r");
        planIs(x, 0, 20);
        x.swans(7);
        planIs(x, 1, 1, 3, 5);
    }

    private static void weekOfOneToFour() {
        Check.of("WEEK: LESSONS told as digits (1 to 4 of them); OUTSIDE: how many 1 to 4");
        SwanSums x = new SwanSums();
        due("week(0, 1)", x.week(0, 1), 0);
        due("week(0, 4)", x.week(0, 4), 0);
        for (int many : new int[] {0, 5, -1, 10, LEAST, MOST}) {
            due("week(0, " + many + ")", x.week(0, many), OUTSIDE);
            due("week(-1, " + many + ")", x.week(-1, many), OUTSIDE);
            due("week(7, " + many + ")", x.week(7, many), OUTSIDE);
        }
    }

    private static void weekOfNumbers() {
        Check.of("week: OUTSIDE: the number");
        int ten = 1;
        for (int many = 1; many <= 4; many++) {
            ten *= 10;
            SwanSums x = Given.numbers(0, 0);
            int sixes = 6 * (ten - 1) / 9;
            due("week(" + sixes + ", " + many + ")", x.week(sixes, many), 0);
            due("week(" + ten + ", " + many + ")", x.week(ten, many), OUTSIDE);
            due("week(-1, " + many + ")", x.week(-1, many), OUTSIDE);
            due("week(LEAST, " + many + ")", x.week(LEAST, many), OUTSIDE);
            due("week(MOST, " + many + ")", x.week(MOST, many), OUTSIDE);
            due("week(1, " + many + "), 0 ahead", x.week(1, many), many > 1 ? NONE : 0);
        }
    }

    private static void weekOfLessons() {
        Check.of("week: OUTSIDE: LESSONS");
        SwanSums x = new SwanSums();
        for (int wrong = 7; wrong <= 9; wrong++) {
            int ten = 1;
            for (int k = 0; k < 4; k++) {
                due("week(" + wrong * ten + ", 4)", x.week(wrong * ten, 4), OUTSIDE);
                due("week(" + wrong * ten + ", " + (k + 1) + ")", x.week(wrong * ten, k + 1), OUTSIDE);
                ten *= 10;
            }
        }
        due("week(6, 1)", x.week(6, 1), 1);
        x.number(0, 8);
        due("4 can not be", x.week(4, 1), NONE);
        due("OUTSIDE, though 4 can not be", x.week(47, 2), OUTSIDE);
        due("OUTSIDE, though 4 can not be", x.week(74, 2), OUTSIDE);
    }

    private static void weekOfNoEvents() {
        Check.of("WEEK: none, where all are TAUGHT now");
        due("0404", new SwanSums().week(404, 4), 0);
        due("of one", Given.swans(1).week(1345, 4), 0);
        due("of one that wears 0", Given.numbers(0).week(6666, 4), 0);
        due("of seven", Given.numbers(0, 0, 0, 0, 0, 0, 0).week(1356, 4), 0);
    }

    private static void weekInTurn() {
        Check.of("WEEK: (the first highest): each must be TAUGHT in its turn: how many together are fewest");
        SwanSums x = new SwanSums();
        due("0 and 2", x.week(2, 2), 1);
        due("2 and 0", x.week(20, 2), 2);
        due("0, 0, 0 and 2", x.week(2, 4), 1);
        due("2, 0, 0 and 0", x.week(2000, 4), 2);
        due("2, 0, 2 and 0", x.week(2020, 4), 4);
        x = Given.numbers(2, 3);
        due("2, which it is", x.week(2, 1), 0);
        due("0, 1, 0 and 1", x.week(101, 4), 0);
        x = Given.numbers(1, 2);
        due("0, 1, 0 and 1", x.week(101, 4), 3);
        due("1, 0, 1 and 0", x.week(1010, 4), 4);
        due("one row serves two", x.week(12, 2), 1);
    }

    private static void weekOfOneLessonAsPlan() {
        Check.of("WEEK of one LESSON: as many EVENTS as a PLAN has");
        int[][] rows = {{6, 4, 9, 12}, {3, 1}, {5, 8, 1, 1, 6, 3, 2}, {7}, {2, 3, 5, 30, 1, 6}, {4, 6, 9, 1, 8}, {9, 6, 4},
            {1, 3, 5, 7, 2, 4, 6}, {12, 18, 27, 8, 4, 6, 36}, {50, 20, 10, 7, 13}, {64, 81, 8, 27, 0, 1}};
        SwanSums x = new SwanSums();
        for (int[] numbers : rows) {
            x.swans(numbers.length);
            for (int swan = 0; swan < numbers.length; swan++) {
                x.number(swan, numbers[swan]);
            }
            for (int lesson = 0; lesson < 7; lesson++) {
                SwanSums fresh = Given.numbers(numbers);
                String told = "week(" + lesson + ", 1) of " + Arrays.toString(numbers);
                due(told + ", fresh", fresh.week(lesson, 1), fresh.plan(lesson, -1));
                due(told, x.week(lesson, 1), fresh.plan(lesson, -1));
                due(told + " four times", x.week(1111 * lesson, 4), fresh.plan(lesson, -1));
            }
        }
    }

    /** Each time the sum of the fewest from LESSON to LESSON, by the first PLAN, is one more or two. */
    private static void weekNotLegByLeg() {
        Check.of("WEEK: how many together are fewest");
        due("2, 4", Given.numbers(9, 7, 2).week(24, 2), 1);
        due("6, 2", Given.numbers(5, 6, 8, 7).week(62, 2), 1);
        due("5, 1, 2, 5", Given.numbers(8, 3, 1).week(5125, 4), 2);
        due("4, 5, 0, 0", Given.numbers(9, 4, 1, 8, 0).week(4500, 4), 3);
        due("1, 0, 5, 5", Given.numbers(7, 8, 1, 3, 9, 0).week(1055, 4), 7);
        due("0, 1, 0, 3", Given.numbers(4, 3, 5, 9, 2, 6).week(103, 4), 8);
        due("3, 0, 3, 6", Given.numbers(8, 29, 1, 20, 33, 34, 25).week(3036, 4), 10);
        due("1, 4, 6", Given.numbers(6, 37, 9, 26, 25, 7, 8).week(146, 3), 7);
        due("1, 6, 4, 0", Given.numbers(34, 39, 0, 27, 10, 7, 29).week(1640, 4), 8);
        due("0, 1, 0, 3", Given.numbers(76, 20, 27, 11, 43, 51, 39).week(103, 4), 10);
    }

    private static void weekThatCanNotBe() {
        Check.of("week: NONE: some LESSON can not be");
        SwanSums x = Given.numbers(2, 4, 8);
        due("4 can not be", x.week(4, 1), NONE);
        due("the first of four", x.week(4000, 4), NONE);
        due("the second", x.week(400, 4), NONE);
        due("the third", x.week(40, 4), NONE);
        due("the last", x.week(4, 4), NONE);
        due("the others can", x.week(125, 4), 0);
        x = Given.swans(1);
        due("2 of one", x.week(2, 1), NONE);
        due("6 of one", x.week(6, 1), NONE);
    }

    private static void sellOfFew() {
        Check.of("SELL: (the last SWAN is not: 0)");
        for (int lesson = 0; lesson < 7; lesson++) {
            due("of one, sell(" + lesson + ")", Given.numbers(0).sell(lesson), 0);
        }
        SwanSums x = Given.numbers(0, 2);
        int[] want = {3, 3, 1, 2, 3, 3, 2};
        for (int lesson = 0; lesson < 7; lesson++) {
            due("of two, sell(" + lesson + ")", x.sell(lesson), want[lesson]);
        }
        Given.done(x, "x1");
        due("of one that is left", x.sell(0), 0);
    }

    private static void sellOfManySwans() {
        Check.of("SELL: SWANS, each SOLD alone, without whom a LESSON is TAUGHT, as bits");
        SwanSums x = Given.swans(7);
        due("all of seven", x.sell(0), 127);
        Given.done(x, "r");
        due("none", x.sell(0), 0);
        x = Given.numbers(1, 2, 3, 4, 5, 6, 0);
        due("SWAN 6 alone", x.sell(0), 64);
        Given.done(x, "b6");
        due("SWAN 6 first", x.sell(0), 127);
        Given.done(x, "p0x0");
        due("SWAN 0 is SOLD", x.sell(0), 64);
        Check.due("THE ROW stays", Given.row(x), "123456");
    }

    private static void sellOfLessons() {
        Check.of("sell: OUTSIDE");
        SwanSums x = new SwanSums();
        due("sell(0)", x.sell(0), 15);
        due("sell(6)", x.sell(6), 0);
        for (int lesson : new int[] {-1, 7, LEAST, MOST}) {
            due("sell(" + lesson + ")", x.sell(lesson), OUTSIDE);
            due("of one, sell(" + lesson + ")", Given.swans(1).sell(lesson), OUTSIDE);
        }
    }

    private static void wornIs(SwanSums x, int swan, int lesson, int many, int least, int greatest) {
        due("worn(" + swan + ", " + lesson + ", 0)", x.worn(swan, lesson, 0), many);
        due("worn(" + swan + ", " + lesson + ", 1)", x.worn(swan, lesson, 1), least);
        due("worn(" + swan + ", " + lesson + ", 2)", x.worn(swan, lesson, 2), greatest);
    }

    private static void wornLeastAndGreatest() {
        Check.of("WORN: NUMBERS (0 to 99): how many, the least, the greatest");
        SwanSums x = Given.numbers(0, 99);
        wornIs(x, 0, 0, 99, 0, 98);
        wornIs(x, 1, 0, 99, 1, 99);
        x = Given.numbers(98, 50);
        wornIs(x, 1, 0, 1, 99, 99);
        x = Given.numbers(50, 1);
        wornIs(x, 0, 0, 1, 0, 0);
        wornIs(x, 0, 2, 25, 2, 97);
        wornIs(Given.numbers(5), 0, 3, 10, 0, 81);
        wornIs(Given.numbers(5, 99), 0, 6, 1, 99, 99);
        wornIs(Given.numbers(5, 50, 49), 0, 6, 1, 99, 99);
        wornIs(Given.numbers(5, 50, 50), 0, 6, 0, NONE, NONE);
    }

    private static void wornByNoneAndAll() {
        Check.of("WORN: by none: NONE; by all");
        SwanSums x = Given.numbers(5, 0, 99);
        wornIs(x, 1, 2, 100, 0, 99);
        x.number(0, 4);
        wornIs(x, 1, 2, 0, NONE, NONE);
        wornIs(x, 2, 2, 0, NONE, NONE);
        wornIs(Given.numbers(7), 0, 0, 100, 0, 99);
        wornIs(Given.numbers(7), 0, 6, 1, 0, 0);
        wornIs(Given.numbers(99, 7), 1, 0, 0, NONE, NONE);
        wornIs(Given.numbers(7, 0), 0, 0, 0, NONE, NONE);
    }

    private static void wornOfSwans() {
        Check.of("worn: UNKNOWN: also who is SOLD");
        SwanSums x = Given.swans(7);
        due("SWAN 0", x.worn(0, 0, 0), 2);
        due("SWAN 6", x.worn(6, 0, 0), 93);
        for (int swan : new int[] {-1, 7, 8, LEAST, MOST}) {
            due("SWAN " + swan, x.worn(swan, 0, 0), UNKNOWN);
            due("UNKNOWN ahead of OUTSIDE, SWAN " + swan, x.worn(swan, 7, 0), UNKNOWN);
            due("UNKNOWN ahead of OUTSIDE, SWAN " + swan, x.worn(swan, 0, 3), UNKNOWN);
        }
        Given.done(x, "x0x5");
        for (int swan : new int[] {0, 6}) {
            due("SOLD " + swan, x.worn(swan, 0, 0), UNKNOWN);
            due("SOLD " + swan + ", ahead of OUTSIDE", x.worn(swan, -1, -1), UNKNOWN);
        }
        wornIs(x, 1, 0, 3, 0, 2);
        wornIs(x, 5, 0, 94, 6, 99);
    }

    private static void wornOfLessonsAndWhat() {
        Check.of("worn: OUTSIDE");
        SwanSums x = new SwanSums();
        due("worn(3, 6, 0)", x.worn(3, 6, 0), 1);
        due("worn(3, 6, 2)", x.worn(3, 6, 2), 0);
        for (int wrong : new int[] {-1, LEAST, MOST}) {
            due("worn(3, " + wrong + ", 0)", x.worn(3, wrong, 0), OUTSIDE);
            due("worn(3, 6, " + wrong + ")", x.worn(3, 6, wrong), OUTSIDE);
            due("worn(3, " + wrong + ", " + wrong + ")", x.worn(3, wrong, wrong), OUTSIDE);
        }
        due("worn(3, 7, 0)", x.worn(3, 7, 0), OUTSIDE);
        due("worn(3, 6, 3)", x.worn(3, 6, 3), OUTSIDE);
        due("OUTSIDE, where NONE would be", Given.numbers(99, 7).worn(1, 0, 3), OUTSIDE);
    }

    private static void wornLeavesNumbers() {
        Check.of("WORN: all others being as told");
        SwanSums x = Given.numbers(10, 20, 30);
        wornIs(x, 1, 0, 19, 11, 29);
        for (int k = 0; k < 3; k++) {
            due("told(" + (10 + k) + ")", x.told(10 + k), 10 * k + 10);
        }
        Given.done(x, "r");
        wornIs(x, 1, 0, 0, NONE, NONE);
        wornIs(x, 0, 2, 0, NONE, NONE);
        wornIs(x, 2, 2, 25, 2, 97);
    }

    private static void rivalsAre(SwanSums x, int much, int end) {
        due("rivals(0)", x.rivals(0), much);
        due("rivals(1)", x.rivals(1), end);
    }

    private static void rivalsOfFew() {
        Check.of("RIVALS: till none is there, of one, two and three SWANS");
        rivalsAre(Given.numbers(99), 99, 0);
        rivalsAre(Given.numbers(3, 4), 4, 1);
        rivalsAre(Given.numbers(4, 3), 4, 0);
        rivalsAre(Given.numbers(1, 9, 2), 3, 0);
        rivalsAre(Given.numbers(2, 9, 1), 3, 0);
        rivalsAre(Given.done(Given.numbers(7, 9), "x1"), 7, 0);
        rivalsAre(Given.done(Given.numbers(3, 4), "r"), 4, 0);
    }

    private static void rivalsOfMuchAndNothing() {
        Check.of("RIVALS: as much by NUMBERS as can be");
        rivalsAre(Given.numbers(0, 0, 0, 0, 0, 0, 0), 0, 0);
        rivalsAre(Given.numbers(99, 99, 99, 99, 99, 99, 99), 396, 0);
        rivalsAre(Given.numbers(99, 99, 99, 99, 99, 99), 297, 0);
        rivalsAre(Given.numbers(5, 99, 6, 1), 100, 1);
        rivalsAre(Given.numbers(0, 0, 0, 0, 0, 0, 99), 99, 1);
        rivalsAre(Given.numbers(0, 0, 0, 99, 0, 0, 0), 0, 0);
        rivalsAre(Given.numbers(0, 0, 99, 0, 0, 0), 99, 0);
    }

    private static void rivalsAsGood() {
        Check.of("RIVALS: the first, if both are as good");
        rivalsAre(Given.numbers(5, 5), 5, 0);
        rivalsAre(Given.numbers(5, 5, 5), 10, 0);
        rivalsAre(Given.numbers(0, 0), 0, 0);
        rivalsAre(Given.numbers(5, 9, 5), 10, 0);
        rivalsAre(Given.numbers(4, 5), 5, 1);
    }

    private static void rivalsWhat() {
        Check.of("rivals: OUTSIDE");
        SwanSums x = new SwanSums();
        rivalsAre(x, 6, 1);
        for (int what : new int[] {-1, 2, LEAST, MOST}) {
            due("rivals(" + what + ")", x.rivals(what), OUTSIDE);
        }
    }
}
