import java.util.ArrayList;
import java.util.Collections;
import java.util.HashMap;
import java.util.List;
import java.util.Map;

/**
 * The document told once more, in the plainest and slowest way, over lists; nothing is
 * shared with the program, so that both can be held against each other.
 */
final class Naive {
    private static final int NONE = -6, UNKNOWN = -1, OUTSIDE = -2, STATE = -3, FULL = -4, NO = -5;
    private static final long LOST = -1000000000000000000L;

    private static final class State {
        List<Integer> numbers = new ArrayList<>();
        List<Integer> row = new ArrayList<>();
        List<int[]> sights = new ArrayList<>();

        State copy() {
            State s = new State();
            s.numbers.addAll(numbers);
            s.row.addAll(row);
            s.sights.addAll(sights);
            return s;
        }
    }

    private State now = new State();
    private final State[] images = new State[2];
    private String pad = "";

    Naive() {
        setUp(4);
    }

    private void setUp(int n) {
        now = new State();
        for (int k = 0; k < n; k++) {
            now.numbers.add(k + 1);
            now.row.add(k);
        }
    }

    int swans(int n) {
        if (n < 1 || n > 7) {
            return OUTSIDE;
        }
        int was = now.numbers.size();
        setUp(n);
        return was;
    }

    private boolean known(long swan) {
        return swan >= 0 && swan < now.numbers.size();
    }

    int number(int swan, int v) {
        if (!known(swan)) {
            return UNKNOWN;
        }
        return v < 0 || v > 99 ? OUTSIDE : now.numbers.set(swan, v);
    }

    int say(int sign) {
        if (sign < 33 || sign > 126) {
            return OUTSIDE;
        }
        if (pad.length() == 60) {
            return FULL;
        }
        pad += (char) sign;
        return pad.length();
    }

    int wipe() {
        int was = pad.length();
        pad = "";
        return was;
    }

    /** Whether signs can follow the text so that a DAY comes out; the text is short enough. */
    private static boolean canGoOn(String text) {
        return text.matches("(r|[bpg][0-9?]|x[0-9])*[bpgx]?") && text.chars().filter(c -> c == '?').count() <= 3;
    }

    int fault() {
        for (int k = 1; k <= pad.length(); k++) {
            if (!canGoOn(pad.substring(0, k))) {
                return k - 1;
            }
        }
        return pad.matches("(r|[bpg][0-9?]|x[0-9])*") ? NONE : pad.length();
    }

    private static List<String> events(String text) {
        List<String> events = new ArrayList<>();
        for (char c : text.toCharArray()) {
            if (Character.isLetter(c)) {
                events.add("" + c);
            } else {
                events.add(events.remove(events.size() - 1) + c);
            }
        }
        return events;
    }

    /** Null if the EVENT can not be. */
    private static List<Integer> after(List<Integer> before, String event) {
        List<Integer> row = new ArrayList<>(before);
        char sort = event.charAt(0);
        if (sort == 'r') {
            Collections.reverse(row);
            return row;
        }
        int place = event.charAt(1) - '0';
        if (place >= row.size() || sort == 'g' && place + 1 >= row.size() || sort == 'x' && row.size() < 2) {
            return null;
        }
        if (sort == 'g') {
            Collections.swap(row, place, place + 1);
            return row;
        }
        Integer who = row.remove(place);
        if (sort == 'b') {
            row.add(0, who);
        } else if (sort == 'p') {
            row.add(who);
        }
        return row;
    }

    private int judged(String text) {
        List<Integer> row = now.row;
        int k = 0;
        for (String event : events(text)) {
            row = after(row, event);
            if (row == null) {
                return k;
            }
            k++;
        }
        return NONE;
    }

    private List<Integer> rowBehind(String text) {
        List<Integer> row = now.row;
        for (String event : events(text)) {
            row = row == null ? null : after(row, event);
        }
        return row;
    }

    int judge() {
        if (fault() != NONE) {
            return NO;
        }
        return pad.contains("?") ? STATE : judged(pad);
    }

    private int refusal() {
        int j = judge();
        return j >= 0 ? NO : j;
    }

    int done() {
        if (refusal() != NONE) {
            return refusal();
        }
        int many = events(pad).size();
        now.row = rowBehind(pad);
        pad = "";
        return many;
    }

    int at(int place) {
        return place >= 0 && place < now.row.size() ? now.row.get(place) : UNKNOWN;
    }

    int behind(int place) {
        if (refusal() != NONE) {
            return refusal();
        }
        List<Integer> row = rowBehind(pad);
        if (place == -1) {
            return row.size();
        }
        return place >= 0 && place < row.size() ? row.get(place) : NONE;
    }

    private List<Integer> line(List<Integer> row) {
        List<Integer> line = new ArrayList<>();
        for (int swan : row) {
            line.add(now.numbers.get(swan));
        }
        return line;
    }

    private static int sum(List<Integer> some) {
        return some.stream().mapToInt(Integer::intValue).sum();
    }

    private static boolean times(int a, int b) {
        for (int k = 0; k <= 99; k++) {
            if (b * k == a) {
                return true;
            }
        }
        return false;
    }

    private static boolean teaches(int lesson, List<Integer> line) {
        int n = line.size();
        boolean yes = true;
        switch (lesson) {
            case 0:
                for (int i = 0; i < n; i++) {
                    for (int j = i + 1; j < n; j++) {
                        yes &= line.get(i) < line.get(j);
                    }
                }
                return yes;
            case 1:
                for (int i = 0; i < n; i++) {
                    for (int j = i + 1; j < n; j++) {
                        yes &= !(line.get(i) % 2 != 0 && line.get(j) % 2 == 0);
                    }
                }
                return yes;
            case 2:
                int divisors = 0;
                for (int d = 1; d <= line.get(0); d++) {
                    divisors += line.get(0) % d == 0 ? 1 : 0;
                }
                return divisors == 2;
            case 3:
                int three = sum(line.subList(0, n < 3 ? n : 3));
                boolean square = false;
                for (int r = 0; r < 30; r++) {
                    square |= r * r == three;
                }
                return square;
            case 4:
                for (int i = 1; i < n; i++) {
                    yes &= (line.get(i) + line.get(i - 1)) % 2 == 1;
                }
                return yes;
            case 5:
                for (int i = 1; i < n; i++) {
                    yes &= times(line.get(i), line.get(i - 1)) || times(line.get(i - 1), line.get(i));
                }
                return yes;
            default:
                return sum(line.subList(0, n / 2)) * 2 == sum(line);
        }
    }

    private int bits(List<Integer> row) {
        int bits = 0;
        for (int lesson = 0; lesson < 7; lesson++) {
            bits += teaches(lesson, line(row)) ? 1 << lesson : 0;
        }
        return bits;
    }

    int taught(int what) {
        if (what != 0 && what != 1) {
            return OUTSIDE;
        }
        if (what == 0) {
            return bits(now.row);
        }
        return refusal() != NONE ? refusal() : bits(rowBehind(pad));
    }

    int read(int sum, int what) {
        if (sum < 0 || sum > 693 || what < 0 || what > 2) {
            return OUTSIDE;
        }
        List<Integer> line = line(now.row);
        int many = 0;
        int first = 99;
        int shortest = 99;
        for (int i = 0; i < line.size(); i++) {
            for (int j = i + 1; j <= line.size(); j++) {
                if (sum(line.subList(i, j)) == sum) {
                    many++;
                    first = Math.min(first, i);
                    shortest = Math.min(shortest, j - i);
                }
            }
        }
        if (what == 0) {
            return many;
        }
        return many == 0 ? NONE : what == 1 ? first : shortest;
    }

    int longest() {
        List<Integer> line = line(now.row);
        int longest = 0;
        for (int i = 0; i < line.size(); i++) {
            for (int j = i + 1; j <= line.size(); j++) {
                if (teaches(0, line.subList(i, j))) {
                    longest = Math.max(longest, j - i);
                }
            }
        }
        return longest;
    }

    private static List<String> allEvents(int size) {
        List<String> all = new ArrayList<>();
        for (char sort : "bprg".toCharArray()) {
            for (int place = 0; place < (sort == 'r' ? 1 : sort == 'g' ? size - 1 : size); place++) {
                all.add(sort == 'r' ? "r" : "" + sort + place);
            }
        }
        return all;
    }

    private static void orders(List<Integer> left, List<Integer> row, List<List<Integer>> all) {
        if (left.isEmpty()) {
            all.add(new ArrayList<>(row));
        }
        for (Integer who : left) {
            List<Integer> rest = new ArrayList<>(left);
            rest.remove(who);
            row.add(who);
            orders(rest, row, all);
            row.remove(row.size() - 1);
        }
    }

    private boolean canBeTaught(int lesson) {
        List<List<Integer>> all = new ArrayList<>();
        orders(now.row, new ArrayList<>(), all);
        return all.stream().anyMatch(row -> teaches(lesson, line(row)));
    }

    /** The first rows of just so many EVENTS are tried first; all of them, one by one. */
    private boolean tryEvents(int lesson, List<Integer> row, int more, List<String> told) {
        if (more == 0) {
            return teaches(lesson, line(row));
        }
        for (String event : allEvents(row.size())) {
            told.add(event);
            if (tryEvents(lesson, after(row, event), more - 1, told)) {
                return true;
            }
            told.remove(told.size() - 1);
        }
        return false;
    }

    private List<String> planByTrial(int lesson) {
        List<String> told = new ArrayList<>();
        int many = 0;
        while (!tryEvents(lesson, now.row, many, told)) {
            many++;
        }
        return told;
    }

    /** How far each row is from a LESSON, told backwards; then always the first EVENT that is nearer. */
    private List<String> planByDearth(int lesson) {
        List<List<Integer>> all = new ArrayList<>();
        orders(now.row, new ArrayList<>(), all);
        Map<List<Integer>, Integer> far = new HashMap<>();
        for (List<Integer> row : all) {
            far.put(row, teaches(lesson, line(row)) ? 0 : 99);
        }
        for (int d = 1; far.get(now.row) == 99; d++) {
            for (List<Integer> row : all) {
                for (String event : allEvents(row.size())) {
                    if (far.get(row) == 99 && far.get(after(row, event)) == d - 1) {
                        far.put(row, d);
                    }
                }
            }
        }
        List<String> told = new ArrayList<>();
        List<Integer> row = now.row;
        while (far.get(row) > 0) {
            for (String event : allEvents(row.size())) {
                if (far.get(after(row, event)) < far.get(row)) {
                    told.add(event);
                    row = after(row, event);
                    break;
                }
            }
        }
        return told;
    }

    int plan(int lesson, int i) {
        if (lesson < 0 || lesson > 6) {
            return OUTSIDE;
        }
        if (!canBeTaught(lesson)) {
            return NONE;
        }
        List<String> told = now.row.size() < 5 ? planByTrial(lesson) : planByDearth(lesson);
        int many = told.size();
        if (i == -1) {
            return many;
        }
        if (i < 0 || i >= many) {
            return NONE;
        }
        String event = told.get(i);
        return event.equals("r") ? 20 : 10 * "bprg".indexOf(event.charAt(0)) + event.charAt(1) - '0';
    }

    /** By stages: the dearth of each row when so many LESSONS are behind, row by row by length. */
    int week(int lessons, int many) {
        if (many < 1 || many > 4 || lessons < 0 || lessons >= Math.round(Math.pow(10, many))) {
            return OUTSIDE;
        }
        String digits = ("0000" + lessons).substring(("0000" + lessons).length() - many);
        if (!digits.matches("[0-6]*")) {
            return OUTSIDE;
        }
        Map<List<Integer>, Integer> cost = new HashMap<>();
        cost.put(now.row, 0);
        for (char digit : digits.toCharArray()) {
            Map<List<Integer>, Integer> all = spread(cost);
            cost = new HashMap<>();
            for (Map.Entry<List<Integer>, Integer> e : all.entrySet()) {
                if (teaches(digit - '0', line(e.getKey()))) {
                    cost.put(e.getKey(), e.getValue());
                }
            }
            if (cost.isEmpty()) {
                return NONE;
            }
        }
        return Collections.min(cost.values());
    }

    private static Map<List<Integer>, Integer> spread(Map<List<Integer>, Integer> from) {
        Map<List<Integer>, Integer> cost = new HashMap<>(from);
        List<List<List<Integer>>> byCost = new ArrayList<>();
        for (int c = 0; c < 64; c++) {
            byCost.add(new ArrayList<>());
        }
        from.forEach((row, c) -> byCost.get(c).add(row));
        for (int c = 0; c < 63; c++) {
            for (List<Integer> row : byCost.get(c)) {
                if (cost.get(row) < c) {
                    continue;
                }
                for (String event : allEvents(row.size())) {
                    List<Integer> next = after(row, event);
                    if (cost.getOrDefault(next, 99) > c + 1) {
                        cost.put(next, c + 1);
                        byCost.get(c + 1).add(next);
                    }
                }
            }
        }
        return cost;
    }

    int sell(int lesson) {
        if (lesson < 0 || lesson > 6) {
            return OUTSIDE;
        }
        int bits = 0;
        for (int place = 0; place < now.row.size(); place++) {
            List<Integer> rest = after(now.row, "x" + place);
            if (rest != null && teaches(lesson, line(rest))) {
                bits += 1 << now.row.get(place);
            }
        }
        return bits;
    }

    int worn(int swan, int lesson, int what) {
        if (!now.row.contains(swan)) {
            return UNKNOWN;
        }
        if (lesson < 0 || lesson > 6 || what < 0 || what > 2) {
            return OUTSIDE;
        }
        List<Integer> good = new ArrayList<>();
        int was = now.numbers.get(swan);
        for (int v = 0; v < 100; v++) {
            now.numbers.set(swan, v);
            if (teaches(lesson, line(now.row))) {
                good.add(v);
            }
        }
        now.numbers.set(swan, was);
        if (what == 0) {
            return good.size();
        }
        return good.isEmpty() ? NONE : what == 1 ? Collections.min(good) : Collections.max(good);
    }

    /** What the one who takes next gets of the line in all. */
    private static int gets(List<Integer> line) {
        return line.isEmpty() ? 0 : Math.max(getsBy(line, 0), getsBy(line, line.size() - 1));
    }

    private static int getsBy(List<Integer> line, int place) {
        List<Integer> rest = new ArrayList<>(line);
        rest.remove(place);
        return sum(line) - gets(rest);
    }

    int rivals(int what) {
        if (what != 0 && what != 1) {
            return OUTSIDE;
        }
        List<Integer> line = line(now.row);
        if (what == 0) {
            return gets(line);
        }
        return getsBy(line, 0) >= getsBy(line, line.size() - 1) ? 0 : 1;
    }

    int seen(int swan, int place) {
        if (!known(swan)) {
            return UNKNOWN;
        }
        if (place < 0 || place > 6) {
            return OUTSIDE;
        }
        if (now.sights.size() == 6) {
            return FULL;
        }
        now.sights.add(new int[] {swan, place});
        return now.sights.size();
    }

    int forget() {
        int was = now.sights.size();
        now.sights.clear();
        return was;
    }

    private void fill(String text, List<String> good) {
        if (text.contains("?")) {
            for (int d = 0; d < 10; d++) {
                fill(text.replaceFirst("\\?", "" + d), good);
            }
            return;
        }
        List<Integer> row = rowBehind(text);
        if (row == null) {
            return;
        }
        for (int[] sight : now.sights) {
            if (row.indexOf(sight[0]) != sight[1]) {
                return;
            }
        }
        good.add(text);
    }

    int filled(int i) {
        if (fault() != NONE) {
            return NO;
        }
        List<String> good = new ArrayList<>();
        fill(pad, good);
        if (i == -1) {
            return good.size();
        }
        if (good.isEmpty() || i < 0) {
            return NONE;
        }
        int gap = -1;
        for (int k = 0; k <= i; k++) {
            gap = pad.indexOf('?', gap + 1);
            if (gap < 0) {
                return NONE;
            }
        }
        return good.get(0).charAt(gap) - '0';
    }

    long pikes(int lesson, int m, int part) {
        if (lesson < 0 || lesson > 6 || m < 0 || m > 3 || part < 0 || part > 1) {
            return LOST - 2;
        }
        List<List<Integer>> rows = new ArrayList<>();
        rows.add(now.row);
        for (int k = 0; k < m; k++) {
            List<List<Integer>> next = new ArrayList<>();
            for (List<Integer> row : rows) {
                for (int place = 0; place < row.size(); place++) {
                    next.add(after(row, "p" + place));
                }
            }
            rows = next;
        }
        java.math.BigInteger good = java.math.BigInteger.valueOf(rows.stream().filter(r -> teaches(lesson, line(r))).count());
        java.math.BigInteger all = java.math.BigInteger.valueOf(rows.size());
        return (part == 0 ? good : all).divide(good.gcd(all)).longValue();
    }

    int year(int seed, int m, int of) {
        boolean lesson = of >= 0 && of <= 6;
        if (seed < 0 || seed > 9999 || m < 1 || m > 99 || !lesson && !known((long) of - 10)) {
            return OUTSIDE;
        }
        List<Integer> row = now.row;
        long x = seed;
        int many = 0;
        for (int k = 0; k < m; k++) {
            x = (75 * x + 74) % 65537;
            row = after(row, (x % 2 == 0 ? "b" : "p") + x / 2 % row.size());
            many += (lesson ? teaches(of, line(row)) : row.get(0) == of - 10) ? 1 : 0;
        }
        return many;
    }

    int image(int n) {
        if (n != 0 && n != 1) {
            return OUTSIDE;
        }
        images[n] = now.copy();
        return 1;
    }

    int restore(int n) {
        if (n != 0 && n != 1) {
            return OUTSIDE;
        }
        if (images[n] == null) {
            return STATE;
        }
        now = images[n].copy();
        return 1;
    }

    int told(int what) {
        int[] many = {pad.length(), now.numbers.size(), now.row.size(), now.sights.size()};
        if (what >= 0 && what < 4) {
            return many[what];
        }
        return known((long) what - 10) ? now.numbers.get(what - 10) : OUTSIDE;
    }
}
