import java.util.ArrayList;
import java.util.Arrays;
import java.util.HashMap;
import java.util.List;
import java.util.Map;
import java.util.regex.Matcher;
import java.util.regex.Pattern;

/**
 * The document once more, as slow and as literal as can be, to be asked the same as the program.
 * It shares no code with it, and is written another way wherever there is one: texts are reckoned
 * while they are read, matchings are listed whole, what stones make is tried by all ways to lay them.
 */
final class GateModel {
    static final int BAD = -2, STATE = -3, FULL = -4;
    static final long NO = -4611686018427387904L;
    static final String FIRST = "may 1 ; fine off * 2 ; toll hour ;";

    record Cart(int inward, int kind, int weight, int value, int more, int comes) {
        Cart coming(int hour) {
            return new Cart(inward, kind, weight, value, more, hour);
        }

        Cart turned(int to) {
            return new Cart(to, kind, weight, value, more, comes);
        }

        int waited(int h) {
            return h > comes ? h - comes : 0;
        }

        int weighs(int h) {
            int drinking = weight + more * waited(h);
            if (kind == 2) {
                return drinking;
            }
            return kind == 5 ? Math.max(1, 2 * weight - drinking) : weight;
        }

        int worth(int h) {
            int spoiling = Math.max(0, value - more * waited(h));
            if (kind == 1) {
                return spoiling;
            }
            if (kind == 3) {
                return waited(h) <= 3 ? spoiling * 2 : 0;
            }
            return kind == 4 ? Math.max(0, value - more) : value;
        }

        boolean is(int other) {
            int[] above = {-1, 0, 0, 1, 0, 2};
            for (int k = kind; k >= 0; k = above[k]) {
                if (k == other) {
                    return true;
                }
            }
            return false;
        }
    }

    record Row(int hour, int set, int brings, int moreIn, int waited) { }

    record Kept(int[] scale, List<Integer> stones, List<Cart> carts, int law) { }

    static final class Sheet {
        int sort;
        int[] cells;
    }

    static final class Fault extends RuntimeException {
        private static final long serialVersionUID = 1;
        final int place;

        Fault(int place) {
            this.place = place;
        }
    }

    /** Reads a text and reckons it with names' values at once. */
    static final class Reckoner {
        private static final Pattern TOKEN = Pattern.compile("[a-z]+|[0-9]+|[();+*<=-]");
        private static final List<String> NAMES = List.of("in", "out", "off", "hour", "many", "stones");
        private static final List<String> KEYS = List.of("may", "fine", "toll", "or", "and", "not");
        private final List<String> tokens = new ArrayList<>();
        private final List<Integer> places = new ArrayList<>();
        private final int[] values;
        private int now;
        private int open;

        Reckoner(String text, int[] values) {
            this.values = values;
            Matcher matcher = TOKEN.matcher(text);
            int i = 0;
            while (i < text.length()) {
                if (text.charAt(i) == ' ' || text.charAt(i) == '\n') {
                    i++;
                    continue;
                }
                places.add(i);
                if (matcher.find(i) && matcher.start() == i && good(matcher.group())) {
                    tokens.add(matcher.group());
                    i = matcher.end();
                } else {
                    tokens.add("?");
                    i = text.length();
                }
            }
            tokens.add("");
            places.add(text.length());
        }

        private static boolean good(String token) {
            char first = token.charAt(0);
            if (Character.isDigit(first)) {
                return token.length() <= 4;
            }
            return !Character.isLetter(first) || NAMES.contains(token) || KEYS.contains(token);
        }

        int[] all() {
            int[] said = new int[3];
            said[0] = part("may") != 0 ? 1 : 0;
            said[1] = Math.min(99, Math.max(0, part("fine")));
            said[2] = Math.min(99, Math.max(0, part("toll")));
            if (!tokens.get(now).isEmpty()) {
                throw new Fault(places.get(now));
            }
            return said;
        }

        private int part(String key) {
            must(key);
            int value = or();
            must(";");
            return value;
        }

        private boolean eats(String token) {
            if (tokens.get(now).equals(token)) {
                now++;
                return true;
            }
            return false;
        }

        private void must(String token) {
            if (!eats(token)) {
                throw new Fault(places.get(now));
            }
        }

        private void opens() {
            if (open == 5) {
                throw new Fault(places.get(now - 1));
            }
            open++;
        }

        private int or() {
            int value = and();
            while (eats("or")) {
                int right = and();
                value = value != 0 | right != 0 ? 1 : 0;
            }
            return value;
        }

        private int and() {
            int value = not();
            while (eats("and")) {
                int right = not();
                value = value != 0 & right != 0 ? 1 : 0;
            }
            return value;
        }

        private int not() {
            if (eats("not")) {
                opens();
                int value = not();
                open--;
                return value == 0 ? 1 : 0;
            }
            int value = sum();
            if (eats("<")) {
                return value < sum() ? 1 : 0;
            }
            if (eats("=")) {
                return value == sum() ? 1 : 0;
            }
            return value;
        }

        private int sum() {
            int value = term();
            while (true) {
                if (eats("+")) {
                    value += term();
                } else if (eats("-")) {
                    value -= term();
                } else {
                    return value;
                }
            }
        }

        private int term() {
            int value = one();
            while (eats("*")) {
                value *= one();
            }
            return value;
        }

        private int one() {
            String token = tokens.get(now);
            if (NAMES.contains(token)) {
                now++;
                return values[NAMES.indexOf(token)];
            }
            if (!token.isEmpty() && Character.isDigit(token.charAt(0))) {
                now++;
                return Integer.parseInt(token);
            }
            if (eats("-")) {
                opens();
                int value = -one();
                open--;
                return value;
            }
            if (eats("(")) {
                opens();
                int value = or();
                must(")");
                open--;
                return value;
            }
            throw new Fault(places.get(now));
        }
    }

    private int[] scale = {1, 1, 0};
    private List<Integer> stones = new ArrayList<>();
    private List<Cart> carts = new ArrayList<>();
    private final List<String> texts = new ArrayList<>(List.of(FIRST));
    private int law;
    private final StringBuilder tape = new StringBuilder();
    private final Sheet[] sheets = new Sheet[4];
    private Kept kept;

    private static boolean in(int v, int low, int high) {
        return low <= v && v <= high;
    }

    private boolean isCart(int c) {
        return in(c, 0, carts.size() - 1);
    }

    // ---- the scale, stones, the law

    int scale(int what, int v) {
        if (what != 0 && what != 1 && what != 2) {
            return -1;
        }
        if (what < 2 && !in(v, 1, 3) || what == 2 && !in(v, 0, 9)) {
            return BAD;
        }
        int was = scale[what];
        scale[what] = v;
        return was;
    }

    int stone(int w) {
        if (!in(w, 1, 99)) {
            return BAD;
        }
        if (stones.size() == 5) {
            return FULL;
        }
        stones.add(w);
        return stones.size() - 1;
    }

    int sell() {
        if (stones.isEmpty()) {
            return STATE;
        }
        stones.remove(stones.size() - 1);
        return stones.size();
    }

    int stoneTold(int k) {
        return in(k, 0, stones.size() - 1) ? stones.get(k) : -5;
    }

    int count(int what) {
        if (!in(what, 0, 7)) {
            return BAD;
        }
        int[] all = {scale[0], scale[1], scale[2], stones.size(), carts.size(), texts.size(), law, tape.length()};
        return all[what];
    }

    int feed(int n, int... bytes) {
        if (!in(n, 1, 5) || Arrays.stream(bytes).anyMatch(b -> !in(b, 0, 255))) {
            return BAD;
        }
        if (tape.length() > 160 - n) {
            return FULL;
        }
        for (int i = 0; i < n; i++) {
            tape.append((char) bytes[i]);
        }
        return tape.length();
    }

    int text() {
        if (texts.size() == 6) {
            return FULL;
        }
        String text = tape.toString();
        tape.setLength(0);
        try {
            new Reckoner(text, new int[6]).all();
        } catch (Fault fault) {
            return -100 - fault.place;
        }
        texts.add(text);
        return texts.size() - 1;
    }

    int force(int t) {
        if (!in(t, 0, texts.size() - 1)) {
            return BAD;
        }
        int was = law;
        law = t;
        return was;
    }

    int asks(int part, int inOut, int offHour, int manyStones) {
        if (!in(part, 0, 2) || !in(inOut, 0, 999999) || !in(offHour, 0, 99) || !in(manyStones, 0, 99)) {
            return BAD;
        }
        int[] values = {inOut / 1000, inOut % 1000, offHour / 10, offHour % 10, manyStones / 10, manyStones % 10};
        return new Reckoner(texts.get(law), values).all()[part];
    }

    // ---- carts

    int cart(int inward, int kind, int weight, int value, int more) {
        if (!in(inward, 0, 1) || !in(kind, 0, 5) || !in(weight, 1, 99) || !in(value, 0, 99) || !in(more, 0, 9)) {
            return BAD;
        }
        if (carts.size() == 10) {
            return FULL;
        }
        carts.add(new Cart(inward, kind, weight, value, more, 0));
        return carts.size() - 1;
    }

    int set(int c, int what, int v) {
        if (!isCart(c)) {
            return -5;
        }
        if (!in(what, 0, 1) || !in(v, 0, what == 0 ? 9 : 1)) {
            return -7;
        }
        Cart cart = carts.get(c);
        if (what == 1 && cart.kind() != 4) {
            return STATE;
        }
        carts.set(c, what == 0 ? cart.coming(v) : cart.turned(v));
        return what == 0 ? cart.comes() : cart.inward();
    }

    int cartTold(int c, int what) {
        if (!isCart(c)) {
            return -5;
        }
        Cart k = carts.get(c);
        int[] all = {k.comes(), k.inward(), k.kind(), k.weight(), k.value(), k.more()};
        return in(what, 0, 5) ? all[what] : -7;
    }

    int at(int c, int h, int what) {
        if (!isCart(c)) {
            return -5;
        }
        if (!in(h, 0, 9) || !in(what, 0, 1)) {
            return -7;
        }
        return what == 0 ? carts.get(c).weighs(h) : carts.get(c).worth(h);
    }

    // ---- what stones make

    private static final Map<List<Integer>, int[]> MADE = new HashMap<>();

    /** The fewest of some stones that make d, by all ways to lay them; -1: none do. */
    private static int fewest(List<Integer> some, int d) {
        return in(d, 0, 999) ? MADE.computeIfAbsent(List.copyOf(some), GateModel::allWays)[d] : -1;
    }

    private static int[] allWays(List<Integer> some) {
        int[] fewest = new int[1000];
        Arrays.fill(fewest, -1);
        int ways = (int) Math.pow(3, some.size());
        for (int way = 0; way < ways; way++) {
            int sum = 0;
            int used = 0;
            int rest = way;
            for (int w : some) {
                int pan = rest % 3;
                rest /= 3;
                sum += pan == 1 ? w : pan == 2 ? -w : 0;
                used += pan == 0 ? 0 : 1;
            }
            if (sum >= 0 && (fewest[sum] < 0 || used < fewest[sum])) {
                fewest[sum] = used;
            }
        }
        return fewest;
    }

    private static int howMany(List<Integer> some, int n) {
        int made = 0;
        for (int d = 1; d <= n; d++) {
            made += fewest(some, d) >= 0 ? 1 : 0;
        }
        return made;
    }

    int make(int d) {
        return in(d, 0, 999) ? fewest(stones, d) : BAD;
    }

    int makings(int n, int what) {
        if (!in(n, 0, 999) || !in(what, 0, 1)) {
            return BAD;
        }
        if (what == 0) {
            return howMany(stones, n);
        }
        for (int d = 1; d <= n; d++) {
            if (fewest(stones, d) < 0) {
                return d;
            }
        }
        return -1;
    }

    int own(int n, int what) {
        if (!in(n, 0, 99) || !in(what, 0, 1)) {
            return BAD;
        }
        if (stones.size() == 5) {
            return STATE;
        }
        int best = 0;
        int most = -1;
        for (int w = 99; w >= 1; w--) {
            List<Integer> more = new ArrayList<>(stones);
            more.add(w);
            int made = howMany(more, n);
            if (made >= most) {
                most = made;
                best = w;
            }
        }
        return what == 0 ? best : most;
    }

    int falsely(int d) {
        if (!in(d, 0, 999)) {
            return BAD;
        }
        if (fewest(stones, d) >= 0) {
            return 0;
        }
        int bits = 0;
        for (int k = 0; k < stones.size(); k++) {
            List<Integer> other = new ArrayList<>(stones);
            other.set(k, other.get(k) + 1);
            bits += fewest(other, d) >= 0 ? 1 << k : 0;
        }
        return bits;
    }

    // ---- a weighing

    /** What scales() tells of some carts by a text, row of six. */
    private int[] weighed(List<Cart> of, int set, int h, String text) {
        int in = 0;
        int out = 0;
        int ins = 0;
        int outs = 0;
        int worth = 0;
        boolean come = true;
        for (int c = 0; c < of.size(); c++) {
            if ((set & 1 << c) == 0) {
                continue;
            }
            Cart k = of.get(c);
            if (k.inward() == 1) {
                in += k.weighs(h);
                ins++;
            } else {
                out += k.weighs(h);
                outs++;
            }
            worth += k.worth(h);
            come = come && k.comes() <= h;
        }
        int d = Math.abs(scale[0] * in - scale[1] * out);
        int off = -1;
        int used = 0;
        for (int o = scale[2]; o >= 0; o--) {
            int less = fewest(stones, d - o);
            int more = fewest(stones, d + o);
            if (less >= 0 || more >= 0) {
                off = o;
                used = less < 0 ? more : more < 0 ? less : Math.min(less, more);
            }
        }
        int[] told = {0, in, out, off, used, 0};
        if (in(ins, 1, 2) && in(outs, 1, 2) && come && off >= 0) {
            int[] said = new Reckoner(text, new int[] {in, out, off, h, ins + outs, used}).all();
            told[0] = said[0];
            told[5] = said[0] == 1 ? worth - said[1] - said[2] : 0;
        }
        return told;
    }

    private boolean areCarts(int set) {
        return set >= 0 && set < 1 << carts.size();
    }

    int scales(int set, int h, int what) {
        if (!areCarts(set)) {
            return -5;
        }
        if (!in(h, 0, 9) || !in(what, 0, 5)) {
            return -7;
        }
        return weighed(carts, set, h, texts.get(law))[what];
    }

    /** All matchings at an hour, each as a row of others by cart; the sums they bring stand beside. */
    private void matchings(int h, int c, int[] row, int sum, List<int[]> rows, List<Integer> sums) {
        if (c == carts.size()) {
            rows.add(row.clone());
            sums.add(sum);
            return;
        }
        matchings(h, c + 1, row, sum, rows, sums);
        if (carts.get(c).inward() == 0) {
            return;
        }
        for (int o = 0; o < carts.size(); o++) {
            if (carts.get(o).inward() == 0 && row[o] < 0) {
                int[] told = weighed(carts, 1 << c | 1 << o, h, texts.get(law));
                if (told[0] == 1) {
                    row[c] = o;
                    row[o] = c;
                    matchings(h, c + 1, row, sum + told[5], rows, sums);
                    row[c] = -1;
                    row[o] = -1;
                }
            }
        }
    }

    private int[] noRow() {
        int[] row = new int[10];
        Arrays.fill(row, -1);
        return row;
    }

    int pairs(int h, int what) {
        if (!in(h, 0, 9)) {
            return -5;
        }
        if (!in(what, 0, 1)) {
            return -7;
        }
        List<int[]> rows = new ArrayList<>();
        List<Integer> sums = new ArrayList<>();
        matchings(h, 0, noRow(), 0, rows, sums);
        if (what == 1) {
            return sums.stream().mapToInt(s -> s).max().getAsInt();
        }
        return rows.stream().mapToInt(r -> (int) Arrays.stream(r).filter(o -> o >= 0).count() / 2).max().getAsInt();
    }

    private int[] inwardPart(int[] row) {
        return java.util.stream.IntStream.range(0, carts.size())
            .filter(c -> carts.get(c).inward() == 1).map(c -> row[c]).toArray();
    }

    int against(int h, int c) {
        if (!in(h, 0, 9) || !isCart(c)) {
            return -5;
        }
        List<int[]> rows = new ArrayList<>();
        List<Integer> sums = new ArrayList<>();
        matchings(h, 0, noRow(), 0, rows, sums);
        int most = sums.stream().mapToInt(s -> s).max().getAsInt();
        int[] best = null;
        for (int i = 0; i < rows.size(); i++) {
            if (sums.get(i) == most
                && (best == null || Arrays.compare(inwardPart(rows.get(i)), inwardPart(best)) < 0)) {
                best = rows.get(i);
            }
        }
        return best[c];
    }

    /** The best weighing of those of a list that are in free; {0, 0}: none brings more than 0. */
    private int[] bestOf(List<Cart> of, int free, int h, String text) {
        int best = 0;
        int brings = 0;
        for (int set = (1 << of.size()) - 1; set > 0; set--) {
            if ((set & free) == set && in(Integer.bitCount(set), 2, 4)) {
                int[] told = weighed(of, set, h, text);
                if (told[0] == 1 && told[5] > 0 && told[5] >= brings) {
                    best = set;
                    brings = told[5];
                }
            }
        }
        return new int[] {best, brings};
    }

    int best(int h, int what) {
        if (!in(h, 0, 9)) {
            return -5;
        }
        return in(what, 0, 1) ? bestOf(carts, -1, h, texts.get(law))[what] : -7;
    }

    // ---- a day

    private List<Row> day(List<Cart> of, int n, int held, int coming, String text) {
        List<Row> rows = new ArrayList<>();
        int free = coming;
        for (int h = 0; h < n; h++) {
            int[] best = h == held ? new int[2] : bestOf(of, free, h, text);
            if (best[0] != 0) {
                int[] told = weighed(of, best[0], h, text);
                int longest = 0;
                for (int c = 0; c < of.size(); c++) {
                    if ((best[0] & 1 << c) != 0) {
                        longest = Math.max(longest, of.get(c).waited(h));
                    }
                }
                rows.add(new Row(h, best[0], best[1], told[1] - told[2], longest));
                free &= ~best[0];
            }
        }
        return rows;
    }

    private List<Row> fullDay() {
        return day(carts, 10, -1, -1, texts.get(law));
    }

    private static int earned(List<Row> rows) {
        return rows.stream().mapToInt(Row::brings).sum();
    }

    private static int through(List<Row> rows) {
        return rows.stream().mapToInt(Row::set).sum();
    }

    int dusk(int n, int what) {
        if (!in(n, 0, 10)) {
            return -5;
        }
        if (!in(what, 0, 4)) {
            return -7;
        }
        List<Row> rows = day(carts, n, -1, -1, texts.get(law));
        int left = 0;
        for (int c = 0; c < carts.size(); c++) {
            if ((through(rows) & 1 << c) == 0) {
                left = Math.max(left, n - carts.get(c).comes());
            }
        }
        int[] all = {earned(rows), through(rows), rows.stream().mapToInt(Row::moreIn).sum(),
            rows.stream().mapToInt(Row::waited).max().orElse(0), left};
        return all[what];
    }

    int goes(int k, int what) {
        if (!in(what, 0, 1)) {
            return BAD;
        }
        if (what == 0 ? !isCart(k) : !in(k, 0, 9)) {
            return -5;
        }
        for (Row row : fullDay()) {
            if (what == 0 && (row.set() & 1 << k) != 0) {
                return row.hour();
            }
            if (what == 1 && row.hour() == k) {
                return row.set();
            }
        }
        return what == 0 ? -1 : 0;
    }

    int hold(int what) {
        if (!in(what, 0, 1)) {
            return BAD;
        }
        int hour = -1;
        int most = earned(fullDay());
        for (int h = 0; h < 10; h++) {
            int held = earned(day(carts, 10, h, -1, texts.get(law)));
            if (held > most) {
                hour = h;
                most = held;
            }
        }
        return what == 0 ? hour : most;
    }

    int gain(int c) {
        if (!isCart(c)) {
            return -100000;
        }
        return earned(fullDay()) - earned(day(carts, 10, -1, ~(1 << c), texts.get(law)));
    }

    int bring(int c, int what) {
        if (!isCart(c)) {
            return -5;
        }
        if (!in(what, 0, 1)) {
            return -7;
        }
        int hour = -1;
        int most = -1;
        for (int h = 9; h >= 0; h--) {
            List<Cart> other = new ArrayList<>(carts);
            other.set(c, carts.get(c).coming(h));
            int sum = earned(day(other, 10, -1, -1, texts.get(law)));
            if (sum > most) {
                hour = h;
                most = sum;
            }
        }
        return what == 0 ? hour : most;
    }

    // ---- told weighings, books

    private int refusal(int s) {
        if (!in(s, 0, 3)) {
            return BAD;
        }
        if (sheets[s] == null) {
            return -11;
        }
        return sheets[s].cells.length % 2 == 1 ? BAD : 0;
    }

    int judge(int s) {
        if (refusal(s) != 0) {
            return refusal(s);
        }
        int[] cells = sheets[s].cells;
        int told = 0;
        for (int i = 0; i < cells.length; i += 2) {
            int h = cells[i];
            int set = cells[i + 1];
            boolean such = in(h, 0, 9) && areCarts(set) && set != 0;
            if (!such || i > 0 && h <= cells[i - 2] || (told & set) != 0
                || weighed(carts, set, h, texts.get(law))[0] == 0) {
                return i / 2;
            }
            told |= set;
        }
        return -1;
    }

    private static int[] told(List<Row> rows) {
        int[] all = new int[2 * rows.size()];
        for (int i = 0; i < rows.size(); i++) {
            all[2 * i] = rows.get(i).hour();
            all[2 * i + 1] = rows.get(i).set();
        }
        return all;
    }

    int laws(int s) {
        if (refusal(s) != 0) {
            return refusal(s);
        }
        int bits = 0;
        for (int t = 0; t < texts.size(); t++) {
            bits += Arrays.equals(sheets[s].cells, told(day(carts, 10, -1, -1, texts.get(t)))) ? 1 << t : 0;
        }
        return bits;
    }

    int film(int s) {
        if (!in(s, 0, 3)) {
            return BAD;
        }
        sheets[s] = new Sheet();
        sheets[s].sort = 2;
        sheets[s].cells = told(fullDay());
        return sheets[s].cells.length / 2;
    }

    int lost(int h, int n, int weight, int what) {
        if (!in(h, 0, 9)) {
            return -5;
        }
        if (!in(n, 0, 10) || !in(weight, 0, 9999) || !in(what, 0, 2)) {
            return -7;
        }
        int[] all = {0, -1, 0};
        subsets(h, n, weight, 0, 0, all);
        return all[0] == 0 ? 0 : what == 1 && all[1] == -1 ? 0 : all[what];
    }

    private void subsets(int h, int n, int weight, int c, int set, int[] all) {
        if (c == carts.size()) {
            if (n == 0 && weight == 0) {
                all[0]++;
                all[1] &= set;
                all[2] |= set;
            }
            return;
        }
        subsets(h, n, weight, c + 1, set, all);
        subsets(h, n - 1, weight - carts.get(c).weighs(h), c + 1, set | 1 << c, all);
    }

    // ---- days by lot

    private List<Row> drawnDay(int seed) {
        java.math.BigInteger lot = java.math.BigInteger.valueOf(seed + 1);
        List<Cart> other = new ArrayList<>();
        for (Cart cart : carts) {
            lot = lot.multiply(java.math.BigInteger.valueOf(48271)).mod(java.math.BigInteger.valueOf(2147483647));
            other.add(cart.coming(lot.mod(java.math.BigInteger.TEN).intValue()));
        }
        return day(other, 10, -1, -1, texts.get(law));
    }

    int drawn(int seed, int what) {
        if (!in(seed, 0, 99999) || !in(what, 0, 1)) {
            return BAD;
        }
        return what == 0 ? earned(drawnDay(seed)) : through(drawnDay(seed));
    }

    long odds(int c, int seed, int seeds, int part) {
        if (!isCart(c) || !in(seed, 0, 99999) || !in(seeds, 1, 10) || !in(part, 0, 1)) {
            return NO;
        }
        int hits = 0;
        for (int k = 0; k < seeds; k++) {
            hits += (through(drawnDay(seed + k)) & 1 << c) != 0 ? 1 : 0;
        }
        int gcd = java.math.BigInteger.valueOf(hits).gcd(java.math.BigInteger.valueOf(seeds)).intValue();
        return part == 0 ? hits / gcd : seeds / gcd;
    }

    int image() {
        kept = new Kept(scale.clone(), new ArrayList<>(stones), new ArrayList<>(carts), law);
        return carts.size();
    }

    int back() {
        if (kept == null) {
            return STATE;
        }
        scale = kept.scale().clone();
        stones = new ArrayList<>(kept.stones());
        carts = new ArrayList<>(kept.carts());
        law = kept.law();
        return carts.size();
    }

    // ---- the host

    int sheet(int s, int sort, int n) {
        if (!in(s, 0, 3) || !in(sort, -1, 2) || sort >= 0 && n > 40) {
            return BAD;
        }
        if (sort == -1) {
            sheets[s] = null;
            return 1;
        }
        if (n < 0) {
            return -14;
        }
        sheets[s] = new Sheet();
        sheets[s].sort = sort;
        sheets[s].cells = new int[n];
        return 1;
    }

    int cell(int s, int i, int v) {
        if (!in(s, 0, 3)) {
            return BAD;
        }
        if (sheets[s] == null) {
            return -11;
        }
        if (!in(i, 0, sheets[s].cells.length - 1)) {
            return -12;
        }
        sheets[s].cells[i] = sheets[s].sort == 0 ? (byte) v : sheets[s].sort == 1 ? (short) v : v;
        return 1;
    }

    int copy(int s, int i, int other, int j, int n) {
        if (!in(s, 0, 3) || !in(other, 0, 3)) {
            return BAD;
        }
        if (sheets[s] == null || sheets[other] == null) {
            return -11;
        }
        if (sheets[s].sort != sheets[other].sort) {
            return -13;
        }
        try {
            System.arraycopy(sheets[s].cells, i, sheets[other].cells, j, n);
        } catch (IndexOutOfBoundsException e) {
            return -12;
        }
        return n;
    }

    int cartsBy(int s, int sort, int at, int n) {
        if (!in(s, 0, 3) || !in(sort, 0, 2) || !in(n, 0, 8)) {
            return BAD;
        }
        if (sheets[s] == null) {
            return -11;
        }
        if (sheets[s].sort != sort) {
            return -13;
        }
        int came = 0;
        for (int k = 0; k < n; k++) {
            int[] five = new int[5];
            for (int i = 0; i < 5; i++) {
                long place = at + 5L * k + i;
                if (place < 0 || place >= sheets[s].cells.length) {
                    return -12;
                }
                five[i] = sheets[s].cells[(int) place];
            }
            came += cart(five[0], five[1], five[2], five[3], five[4]) >= 0 ? 1 : 0;
        }
        return came;
    }

    int taken(int i, int kind) {
        if (!in(kind, 0, 6)) {
            return BAD;
        }
        if (!in(i, 0, 14)) {
            return -12;
        }
        if (i < 5 ? i >= stones.size() : i - 5 >= carts.size()) {
            return -11;
        }
        if (i < 5) {
            return kind == 6 ? stones.get(i) : -13;
        }
        return carts.get(i - 5).is(kind) ? i - 5 : -13;
    }
}
