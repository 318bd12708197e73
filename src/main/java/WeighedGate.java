/** The weighed gate: nothing comes in through it but against what goes out at the same time, on one scale. */
public final class WeighedGate {
    public static final int NONE = -1, BAD = -2, STATE = -3, FULL = -4;
    public static final long NO = -4611686018427387904L;

    // The refusals that have no name in the document.
    private static final int NO_SUCH = -5;
    private static final int NOT_ASKED_SO = -7;
    private static final int NOTHING_THERE = -11;
    private static final int OUTSIDE = -12;
    private static final int UNLIKE = -13;
    private static final int SIZE_BELOW_0 = -14;
    private static final int FAULT_AT_0 = -100;
    private static final int NO_GAIN = -100000;

    private static final int HOURS = 10;
    private static final int MAX_CARTS = 10;
    private static final int MAX_STONES = 5;
    private static final int MAX_TEXTS = 6;
    private static final int MAX_TAPE = 160;
    private static final int MAX_SHEETS = 4;
    private static final int MAX_CELLS = 40;
    private static final int MAX_DIFFERENCE = 999;
    private static final int NUMBERS_OF_A_CART = 5;
    private static final int ALL_CARTS = (1 << MAX_CARTS) - 1;

    private static final int MISSING = -1;
    private static final int SORT_INTS = 2;
    private static final int KIND_CART = 0;
    private static final int KIND_SPOILING = 1;
    private static final int KIND_DRINKING = 2;
    private static final int KIND_RUSHED = 3;
    private static final int KIND_PERSON = 4;
    private static final int KIND_MELTING = 5;
    private static final int TAKEN_FOR_A_STONE = 6;

    private static final int ARM_IN = 0;
    private static final int ARM_OUT = 1;
    private static final int SLACK = 2;

    private static final int PART_MAY = 0;
    private static final int PART_FINE = 1;
    private static final int PART_TOLL = 2;
    private static final int PARTS = 3;

    // Where a NAME's value stands in the row that a TEXT is asked with.
    private static final int NAME_IN = 0;
    private static final int NAME_OUT = 1;
    private static final int NAME_OFF = 2;
    private static final int NAME_HOUR = 3;
    private static final int NAME_MANY = 4;
    private static final int NAME_STONES = 5;
    private static final int NAMES = 6;

    // A TOKEN is one int: a NUMBER is itself, a NAME is -1 less its place, the others stand here;
    // the words ahead of the PARTS follow one another as these do.
    private static final int TOKEN_OR = -7;
    private static final int TOKEN_AND = -8;
    private static final int TOKEN_NOT = -9;
    private static final int TOKEN_LESS = -10;
    private static final int TOKEN_SAME = -11;
    private static final int TOKEN_PLUS = -12;
    private static final int TOKEN_MINUS = -13;
    private static final int TOKEN_TIMES = -14;
    private static final int TOKEN_NEGATE = -15;
    private static final int TOKEN_OPEN = -16;
    private static final int TOKEN_CLOSE = -17;
    private static final int TOKEN_SEMICOLON = -18;
    private static final int TOKEN_MAY = -19;
    private static final int TOKEN_FINE = -20;
    private static final int TOKEN_TOLL = -21;
    private static final int TOKEN_END = -22;
    private static final int TOKEN_BROKEN = -23;

    private static final String FIRST_LAW = "may 1 ; fine off * 2 ; toll hour ;";

    private final Scale beam = new Scale();
    private final Yard yard = new Yard();
    private final Text[] texts = new Text[MAX_TEXTS];
    private int textCount;
    private int lawNumber;
    private final Reader reader = new Reader();
    private final Weighing weighing = new Weighing(beam, yard);
    private final Pairs pairing = new Pairs(weighing, yard);
    private final Day day = new Day(weighing, yard);
    private final Sheet[] sheets = new Sheet[MAX_SHEETS];
    private final Image kept = new Image();
    private final int[] asked = new int[NAMES];

    public WeighedGate() {
        for (int t = 0; t < MAX_TEXTS; t++) {
            texts[t] = new Text();
        }
        for (int s = 0; s < MAX_SHEETS; s++) {
            sheets[s] = new Sheet();
        }
        for (int i = 0; i < FIRST_LAW.length(); i++) {
            reader.put(FIRST_LAW.charAt(i));
        }
        reader.readInto(texts[0]);
        textCount = 1;
    }

    // ---- the scale, stones, the law

    public int scale(int what, int v) {
        if (!within(what, ARM_IN, SLACK)) {
            return NONE;
        }
        boolean fits = what == SLACK ? within(v, 0, 9) : within(v, 1, 3);
        if (!fits) {
            return BAD;
        }
        int was = beam.settings[what];
        beam.settings[what] = v;
        return was;
    }

    public int stone(int w) {
        if (!within(w, 1, 99)) {
            return BAD;
        }
        if (beam.stoneCount >= MAX_STONES) {
            return FULL;
        }
        int number = beam.stoneCount;
        beam.stones[number] = w;
        beam.stoneCount = number + 1;
        beam.layAll();
        return number;
    }

    public int sell() {
        if (beam.stoneCount <= 0) {
            return STATE;
        }
        beam.stoneCount--;
        beam.layAll();
        return beam.stoneCount;
    }

    public int stoneTold(int k) {
        return within(k, 0, beam.stoneCount - 1) ? beam.stones[k] : NO_SUCH;
    }

    public int count(int what) {
        switch (what) {
            case ARM_IN:
            case ARM_OUT:
            case SLACK:
                return beam.settings[what];
            case 3:
                return beam.stoneCount;
            case 4:
                return yard.size;
            case 5:
                return textCount;
            case 6:
                return lawNumber;
            case 7:
                return reader.size;
            default:
                return BAD;
        }
    }

    public int feed(int n, int a, int b, int c, int d, int e) {
        if (!within(n, 1, 5) || !isByte(a) || !isByte(b) || !isByte(c) || !isByte(d) || !isByte(e)) {
            return BAD;
        }
        if (reader.size + n > MAX_TAPE) {
            return FULL;
        }
        reader.put(a);
        if (n > 1) {
            reader.put(b);
        }
        if (n > 2) {
            reader.put(c);
        }
        if (n > 3) {
            reader.put(d);
        }
        if (n > 4) {
            reader.put(e);
        }
        return reader.size;
    }

    public int text() {
        if (textCount >= MAX_TEXTS) {
            return FULL;
        }
        int fault = reader.readInto(texts[textCount]);
        if (fault >= 0) {
            return FAULT_AT_0 - fault;
        }
        textCount++;
        return textCount - 1;
    }

    public int force(int t) {
        if (!within(t, 0, textCount - 1)) {
            return BAD;
        }
        int was = lawNumber;
        lawNumber = t;
        return was;
    }

    public int asks(int part, int inOut, int offHour, int manyStones) {
        boolean fits = within(part, PART_MAY, PART_TOLL) && within(inOut, 0, 999999)
            && within(offHour, 0, 99) && within(manyStones, 0, 99);
        if (!fits) {
            return BAD;
        }
        asked[NAME_IN] = inOut / 1000;
        asked[NAME_OUT] = inOut % 1000;
        asked[NAME_OFF] = offHour / 10;
        asked[NAME_HOUR] = offHour % 10;
        asked[NAME_MANY] = manyStones / 10;
        asked[NAME_STONES] = manyStones % 10;
        return law().says(part, asked);
    }

    // ---- carts

    public int cart(int inward, int kind, int weight, int value, int more) {
        boolean fits = within(inward, 0, 1) && within(kind, KIND_CART, KIND_MELTING) && within(weight, 1, 99)
            && within(value, 0, 99) && within(more, 0, 9);
        if (!fits) {
            return BAD;
        }
        if (yard.size >= MAX_CARTS) {
            return FULL;
        }
        int number = yard.size;
        Cart cart = yard.carts[number];
        cart.inward = inward;
        cart.kind = kind;
        cart.weight = weight;
        cart.value = value;
        cart.more = more;
        yard.comes[number] = 0;
        yard.size = number + 1;
        return number;
    }

    public int set(int c, int what, int v) {
        if (!yard.has(c)) {
            return NO_SUCH;
        }
        boolean fits = what == 0 && isHour(v) || what == 1 && within(v, 0, 1);
        if (!fits) {
            return NOT_ASKED_SO;
        }
        if (what == 0) {
            int came = yard.comes[c];
            yard.comes[c] = v;
            return came;
        }
        Cart cart = yard.carts[c];
        if (!cart.mayTurn()) {
            return STATE;
        }
        int was = cart.inward;
        cart.inward = v;
        return was;
    }

    public int cartTold(int c, int what) {
        if (!yard.has(c)) {
            return NO_SUCH;
        }
        Cart cart = yard.carts[c];
        switch (what) {
            case 0:
                return yard.comes[c];
            case 1:
                return cart.inward;
            case 2:
                return cart.kind;
            case 3:
                return cart.weight;
            case 4:
                return cart.value;
            case 5:
                return cart.more;
            default:
                return NOT_ASKED_SO;
        }
    }

    public int at(int c, int h, int what) {
        if (!yard.has(c)) {
            return NO_SUCH;
        }
        if (!isHour(h) || !within(what, 0, 1)) {
            return NOT_ASKED_SO;
        }
        int waited = waited(h, yard.comes[c]);
        Cart cart = yard.carts[c];
        return what == 0 ? cart.weighs(waited) : cart.worth(waited);
    }

    // ---- what stones make

    public int make(int d) {
        return isDifference(d) ? beam.fewestFor(d) : BAD;
    }

    public int makings(int n, int what) {
        if (!isDifference(n) || !within(what, 0, 1)) {
            return BAD;
        }
        int made = 0;
        int leastNot = NONE;
        for (int d = 1; d <= n; d++) {
            if (beam.makes(d)) {
                made++;
            } else if (leastNot == NONE) {
                leastNot = d;
            }
        }
        return what == 0 ? made : leastNot;
    }

    public int own(int n, int what) {
        if (!within(n, 0, 99) || !within(what, 0, 1)) {
            return BAD;
        }
        if (beam.stoneCount >= MAX_STONES) {
            return STATE;
        }
        int bestWeight = 1;
        int most = 0;
        for (int w = 1; w <= 99; w++) {
            int made = beam.madeWith(w, n);
            if (made > most) {
                most = made;
                bestWeight = w;
            }
        }
        return what == 0 ? bestWeight : most;
    }

    public int falsely(int d) {
        return isDifference(d) ? beam.heavierFor(d) : BAD;
    }

    // ---- a weighing

    public int scales(int set, int h, int what) {
        if (!yard.hasAll(set)) {
            return NO_SUCH;
        }
        if (!isHour(h) || !within(what, 0, 5)) {
            return NOT_ASKED_SO;
        }
        weighing.prepare(h, yard.comes);
        weighing.weigh(set);
        switch (what) {
            case 0:
                return weighing.mayBe(law()) ? 1 : 0;
            case 1:
                return weighing.in;
            case 2:
                return weighing.out;
            case 3:
                return weighing.off;
            case 4:
                return weighing.stones;
            default:
                return weighing.mayBe(law()) ? weighing.brings(law()) : 0;
        }
    }

    public int pairs(int h, int what) {
        if (!isHour(h)) {
            return NO_SUCH;
        }
        if (!within(what, 0, 1)) {
            return NOT_ASKED_SO;
        }
        pairing.prepare(h, law());
        return what == 0 ? pairing.mostPairs() : pairing.mostBrought();
    }

    public int against(int h, int c) {
        if (!isHour(h) || !yard.has(c)) {
            return NO_SUCH;
        }
        pairing.prepare(h, law());
        pairing.choose();
        return pairing.others[c];
    }

    public int best(int h, int what) {
        if (!isHour(h)) {
            return NO_SUCH;
        }
        if (!within(what, 0, 1)) {
            return NOT_ASKED_SO;
        }
        weighing.prepare(h, yard.comes);
        weighing.findBest(ALL_CARTS, law());
        return what == 0 ? weighing.bestSet : weighing.bestBrings;
    }

    // ---- a day

    public int dusk(int n, int what) {
        if (!within(n, 0, HOURS)) {
            return NO_SUCH;
        }
        if (!within(what, 0, 4)) {
            return NOT_ASKED_SO;
        }
        day.takeComes();
        day.run(n, NONE, ALL_CARTS, law());
        switch (what) {
            case 0:
                return day.earned;
            case 1:
                return day.through;
            case 2:
                return day.moreIn;
            case 3:
                return day.longestWaited;
            default:
                return day.longestLeft(n);
        }
    }

    public int goes(int k, int what) {
        if (!within(what, 0, 1)) {
            return BAD;
        }
        boolean told = what == 0 ? yard.has(k) : isHour(k);
        if (!told) {
            return NO_SUCH;
        }
        runTillDusk();
        return what == 0 ? day.hourOf(k) : day.setAt(k);
    }

    public int hold(int what) {
        if (!within(what, 0, 1)) {
            return BAD;
        }
        runTillDusk();
        int bestHour = NONE;
        int most = day.earned;
        for (int h = 0; h < HOURS; h++) {
            day.run(HOURS, h, ALL_CARTS, law());
            if (day.earned > most) {
                most = day.earned;
                bestHour = h;
            }
        }
        return what == 0 ? bestHour : most;
    }

    public int gain(int c) {
        if (!yard.has(c)) {
            return NO_GAIN;
        }
        runTillDusk();
        int with = day.earned;
        day.run(HOURS, NONE, ALL_CARTS & ~(1 << c), law());
        return with - day.earned;
    }

    public int bring(int c, int what) {
        if (!yard.has(c)) {
            return NO_SUCH;
        }
        if (!within(what, 0, 1)) {
            return NOT_ASKED_SO;
        }
        day.takeComes();
        int bestHour = 0;
        int most = 0;
        for (int h = 0; h < HOURS; h++) {
            day.comes[c] = h;
            day.run(HOURS, NONE, ALL_CARTS, law());
            if (day.earned >= most) {
                most = day.earned;
                bestHour = h;
            }
        }
        return what == 0 ? bestHour : most;
    }

    // ---- told weighings, books

    public int judge(int s) {
        int refusal = refusalOfRows(s);
        if (refusal != 0) {
            return refusal;
        }
        Sheet told = sheets[s];
        int hourAhead = -1;
        int cartsAhead = 0;
        for (int row = 0; row < told.size / 2; row++) {
            int h = told.cells[2 * row];
            int set = told.cells[2 * row + 1];
            if (h <= hourAhead || (set & cartsAhead) != 0 || !isWeighingThatMayBe(h, set)) {
                return row;
            }
            hourAhead = h;
            cartsAhead |= set;
        }
        return NONE;
    }

    public int laws(int s) {
        int refusal = refusalOfRows(s);
        if (refusal != 0) {
            return refusal;
        }
        day.takeComes();
        int found = 0;
        for (int t = 0; t < textCount; t++) {
            day.run(HOURS, NONE, ALL_CARTS, texts[t]);
            if (day.isToldBy(sheets[s])) {
                found |= 1 << t;
            }
        }
        return found;
    }

    public int film(int s) {
        if (!isSheet(s)) {
            return BAD;
        }
        runTillDusk();
        Sheet told = sheets[s];
        told.become(SORT_INTS, 2 * day.rows);
        for (int row = 0; row < day.rows; row++) {
            told.put(2 * row, day.rowHours[row]);
            told.put(2 * row + 1, day.rowSets[row]);
        }
        return day.rows;
    }

    public int lost(int h, int n, int weight, int what) {
        if (!isHour(h)) {
            return NO_SUCH;
        }
        if (!within(n, 0, MAX_CARTS) || !within(weight, 0, 9999) || !within(what, 0, 2)) {
            return NOT_ASKED_SO;
        }
        weighing.prepare(h, yard.comes);
        int sets = 0;
        int inAll = yard.all();
        int inAny = 0;
        for (int set = 0; set <= yard.all(); set++) {
            if (Integer.bitCount(set) == n && weighing.weightOf(set) == weight) {
                sets++;
                inAll &= set;
                inAny |= set;
            }
        }
        if (what == 0) {
            return sets;
        }
        return what == 1 && sets > 0 ? inAll : inAny;
    }

    // ---- days by lot

    public int drawn(int seed, int what) {
        if (!isSeed(seed) || !within(what, 0, 1)) {
            return BAD;
        }
        runDrawn(seed);
        return what == 0 ? day.earned : day.through;
    }

    public long odds(int c, int seed, int seeds, int part) {
        if (!yard.has(c) || !isSeed(seed) || !within(seeds, 1, 10) || !within(part, 0, 1)) {
            return NO;
        }
        int through = 0;
        for (int k = 0; k < seeds; k++) {
            runDrawn(seed + k);
            through += day.through >> c & 1;
        }
        int common = commonDivisor(through, seeds);
        return part == 0 ? through / common : seeds / common;
    }

    public int image() {
        kept.keep(beam, yard, lawNumber);
        return yard.size;
    }

    public int back() {
        if (!kept.isKept) {
            return STATE;
        }
        kept.giveBack(beam, yard);
        lawNumber = kept.lawNumber;
        return yard.size;
    }

    // ---- the host

    public int sheet(int s, int sort, int n) {
        if (!isSheet(s) || !within(sort, MISSING, SORT_INTS)) {
            return BAD;
        }
        if (sort == MISSING) {
            sheets[s].become(MISSING, 0);
            return 1;
        }
        if (n > MAX_CELLS) {
            return BAD;
        }
        if (n < 0) {
            return SIZE_BELOW_0;
        }
        sheets[s].become(sort, n);
        return 1;
    }

    public int cell(int s, int i, int v) {
        if (!isSheet(s)) {
            return BAD;
        }
        Sheet sheet = sheets[s];
        if (sheet.sort == MISSING) {
            return NOTHING_THERE;
        }
        if (!within(i, 0, sheet.size - 1)) {
            return OUTSIDE;
        }
        sheet.put(i, v);
        return 1;
    }

    public int copy(int s, int i, int other, int j, int n) {
        if (!isSheet(s) || !isSheet(other)) {
            return BAD;
        }
        Sheet from = sheets[s];
        Sheet to = sheets[other];
        if (from.sort == MISSING || to.sort == MISSING) {
            return NOTHING_THERE;
        }
        if (from.sort != to.sort) {
            return UNLIKE;
        }
        if (!from.holds(i, n) || !to.holds(j, n)) {
            return OUTSIDE;
        }
        System.arraycopy(from.cells, i, to.cells, j, n);
        return n;
    }

    public int cartsBy(int s, int sort, int at, int n) {
        if (!isSheet(s) || !within(sort, 0, SORT_INTS) || !within(n, 0, 8)) {
            return BAD;
        }
        Sheet told = sheets[s];
        if (told.sort == MISSING) {
            return NOTHING_THERE;
        }
        if (told.sort != sort) {
            return UNLIKE;
        }
        int came = 0;
        int place = at;
        for (int k = 0; k < n; k++) {
            if (!told.holds(place, NUMBERS_OF_A_CART)) {
                return OUTSIDE;
            }
            int[] row = told.cells;
            if (cart(row[place], row[place + 1], row[place + 2], row[place + 3], row[place + 4]) >= 0) {
                came++;
            }
            place += NUMBERS_OF_A_CART;
        }
        return came;
    }

    public int taken(int i, int kind) {
        if (!within(kind, 0, TAKEN_FOR_A_STONE)) {
            return BAD;
        }
        if (!within(i, 0, MAX_STONES + MAX_CARTS - 1)) {
            return OUTSIDE;
        }
        if (i < MAX_STONES) {
            if (i >= beam.stoneCount) {
                return NOTHING_THERE;
            }
            return kind == TAKEN_FOR_A_STONE ? beam.stones[i] : UNLIKE;
        }
        int c = i - MAX_STONES;
        if (!yard.has(c)) {
            return NOTHING_THERE;
        }
        return yard.carts[c].isA(kind) ? c : UNLIKE;
    }

    // ---- what several calls need

    private static boolean within(int v, int least, int most) {
        return v >= least && v <= most;
    }

    private static boolean isByte(int b) {
        return within(b, 0, 255);
    }

    private static boolean isHour(int h) {
        return within(h, 0, HOURS - 1);
    }

    private static boolean isDifference(int d) {
        return within(d, 0, MAX_DIFFERENCE);
    }

    private static boolean isSeed(int seed) {
        return within(seed, 0, 99999);
    }

    private static boolean isSheet(int s) {
        return within(s, 0, MAX_SHEETS - 1);
    }

    private static int waited(int h, int comes) {
        return Math.max(0, h - comes);
    }

    private static int commonDivisor(int a, int b) {
        for (int d = b; d > 1; d--) {
            if (a % d == 0 && b % d == 0) {
                return d;
            }
        }
        return 1;
    }

    private Text law() {
        return texts[lawNumber];
    }

    private void runTillDusk() {
        day.takeComes();
        day.run(HOURS, NONE, ALL_CARTS, law());
    }

    private void runDrawn(int seed) {
        day.drawComes(seed);
        day.run(HOURS, NONE, ALL_CARTS, law());
    }

    /** Why a SHEET can't tell rows of two; 0: it can. */
    private int refusalOfRows(int s) {
        if (!isSheet(s)) {
            return BAD;
        }
        if (sheets[s].sort == MISSING) {
            return NOTHING_THERE;
        }
        return sheets[s].size % 2 == 0 ? 0 : BAD;
    }

    private boolean isWeighingThatMayBe(int h, int set) {
        if (!isHour(h) || !yard.hasAll(set)) {
            return false;
        }
        weighing.prepare(h, yard.comes);
        weighing.weigh(set);
        return weighing.mayBe(law());
    }

    /** The scale: its arms, its slack, the stones and what they make. */
    private static final class Scale {
        final int[] settings = {1, 1, 0};
        final int[] stones = new int[MAX_STONES];
        int stoneCount;
        // The fewest stones for each difference, -1 where none make it: weighings ask for it very often.
        final int[] fewest = new int[MAX_DIFFERENCE + 1];

        Scale() {
            layAll();
        }

        void layAll() {
            for (int d = 0; d <= MAX_DIFFERENCE; d++) {
                fewest[d] = NONE;
            }
            lay(0, 0, 0);
        }

        /** Lays the stones from k on in every way; those ahead make a sum by so many used. */
        private void lay(int k, int sum, int used) {
            if (k >= stoneCount || k >= MAX_STONES) {
                int d = Math.abs(sum);
                if (d <= MAX_DIFFERENCE && (fewest[d] == NONE || used < fewest[d])) {
                    fewest[d] = used;
                }
                return;
            }
            lay(k + 1, sum, used);
            lay(k + 1, sum + stones[k], used + 1);
            lay(k + 1, sum - stones[k], used + 1);
        }

        int fewestFor(int d) {
            return d >= 0 && d <= MAX_DIFFERENCE ? fewest[d] : NONE;
        }

        boolean makes(int d) {
            return fewestFor(d) != NONE;
        }

        /** How many differences 1 .. n a further stone of weight w would leave that can be made. */
        int madeWith(int w, int n) {
            int made = 0;
            for (int d = 1; d <= n; d++) {
                if (makes(d) || makes(Math.abs(d - w)) || makes(d + w)) {
                    made++;
                }
            }
            return made;
        }

        /** The stones, as bits, by each of which, were it 1 heavier, d could be made; 0: it can. */
        int heavierFor(int d) {
            int heavier = 0;
            if (!makes(d)) {
                for (int k = 0; k < stoneCount; k++) {
                    if (reaches(d, 0, k)) {
                        heavier |= 1 << k;
                    }
                }
            }
            return heavier;
        }

        /** Whether the stones from k on can make a sum, with one of them 1 heavier. */
        private boolean reaches(int sum, int k, int heavier) {
            if (k >= stoneCount || k >= MAX_STONES) {
                return sum == 0;
            }
            int w = k == heavier ? stones[k] + 1 : stones[k];
            return reaches(sum, k + 1, heavier)
                || reaches(sum - w, k + 1, heavier)
                || reaches(sum + w, k + 1, heavier);
        }

        /** The least that d may be off; -1: it is off by more than the slack. */
        int offOf(int d) {
            for (int off = 0; off <= settings[SLACK]; off++) {
                if (fewestFor(d - off) != NONE || fewestFor(d + off) != NONE) {
                    return off;
                }
            }
            return NONE;
        }

        /** The fewest stones by which d is made but for what it is off. */
        int stonesFor(int d, int off) {
            int less = fewestFor(d - off);
            int more = fewestFor(d + off);
            if (less == NONE || more == NONE) {
                return Math.max(less, more);
            }
            return Math.min(less, more);
        }
    }

    /** A cart, but for when it comes: days that are only thought of have other hours for it. */
    private static final class Cart {
        int inward;
        int kind;
        int weight;
        int value;
        int more;

        int weighs(int waited) {
            switch (kind) {
                case KIND_DRINKING:
                    return weight + more * waited;
                case KIND_MELTING:
                    // Twice the weight less what a drinking one would weigh.
                    return Math.max(1, weight - more * waited);
                default:
                    return weight;
            }
        }

        int worth(int waited) {
            switch (kind) {
                case KIND_SPOILING:
                    return spoiled(waited);
                case KIND_RUSHED:
                    return waited > 3 ? 0 : 2 * spoiled(waited);
                case KIND_PERSON:
                    return Math.max(0, value - more);
                default:
                    return value;
            }
        }

        private int spoiled(int waited) {
            return Math.max(0, value - more * waited);
        }

        boolean mayTurn() {
            return kind == KIND_PERSON;
        }

        boolean isA(int other) {
            return other == kind || other == KIND_CART
                || other == KIND_SPOILING && kind == KIND_RUSHED
                || other == KIND_DRINKING && kind == KIND_MELTING;
        }
    }

    /** The carts that there are. */
    private static final class Yard {
        final Cart[] carts = new Cart[MAX_CARTS];
        final int[] comes = new int[MAX_CARTS];
        int size;

        Yard() {
            for (int c = 0; c < MAX_CARTS; c++) {
                carts[c] = new Cart();
            }
        }

        boolean has(int c) {
            return c >= 0 && c < size;
        }

        int all() {
            return (1 << size) - 1;
        }

        boolean hasAll(int set) {
            return (set & ~all()) == 0;
        }
    }

    /** A text that has been read, as tokens in the order in which they are reckoned. */
    private static final class Text {
        final int[] code = new int[MAX_TAPE];
        final int[] ends = new int[PARTS];
        final int[] stack = new int[MAX_TAPE];
        int size;

        void clear() {
            size = 0;
        }

        void add(int token) {
            if (size < MAX_TAPE) {
                code[size] = token;
                size++;
            }
        }

        int says(int part, int[] names) {
            int top = 0;
            for (int i = part == PART_MAY ? 0 : ends[part - 1]; i < ends[part]; i++) {
                int token = code[i];
                if (token >= -NAMES && top < MAX_TAPE) {
                    stack[top] = token >= 0 ? token : names[-1 - token];
                    top++;
                } else if (token == TOKEN_NOT && top >= 1) {
                    stack[top - 1] = stack[top - 1] == 0 ? 1 : 0;
                } else if (token == TOKEN_NEGATE && top >= 1) {
                    stack[top - 1] = -stack[top - 1];
                } else if (top >= 2) {
                    top--;
                    stack[top - 1] = joined(token, stack[top - 1], stack[top]);
                }
            }
            int value = top > 0 ? stack[top - 1] : 0;
            if (part == PART_MAY) {
                return value != 0 ? 1 : 0;
            }
            return Math.max(0, Math.min(99, value));
        }

        private static int joined(int token, int a, int b) {
            switch (token) {
                case TOKEN_OR:
                    return a != 0 || b != 0 ? 1 : 0;
                case TOKEN_AND:
                    return a != 0 && b != 0 ? 1 : 0;
                case TOKEN_LESS:
                    return a < b ? 1 : 0;
                case TOKEN_SAME:
                    return a == b ? 1 : 0;
                case TOKEN_PLUS:
                    return a + b;
                case TOKEN_MINUS:
                    return a - b;
                default:
                    return a * b;
            }
        }
    }

    /** The tape, and what reads a text from it. */
    private static final class Reader {
        private static final int MOST_OPEN = 5;
        private static final int MOST_DIGITS = 4;

        // What binds closer stands on a higher level.
        private static final int LEVEL_OR = 0;
        private static final int LEVEL_AND = 1;
        private static final int LEVEL_COMPARED = 2;
        private static final int LEVEL_SUM = 3;
        private static final int LEVEL_TERM = 4;
        private static final int LEVEL_ONE = 5;

        final int[] tape = new int[MAX_TAPE];
        int size;
        private int next;
        private int place;
        private int token;
        private int open;
        private int fault;
        private Text into;

        void put(int b) {
            if (size < MAX_TAPE) {
                tape[size] = b;
                size++;
            }
        }

        /** Reads the tape, which is empty then: the place of its fault, or -1. */
        int readInto(Text text) {
            into = text;
            into.clear();
            next = 0;
            open = 0;
            fault = NONE;
            advance();
            for (int part = PART_MAY; part <= PART_TOLL; part++) {
                expect(TOKEN_MAY - part);
                readLevel(LEVEL_OR);
                expect(TOKEN_SEMICOLON);
                into.ends[part] = into.size;
            }
            if (token != TOKEN_END) {
                fail();
            }
            size = 0;
            return fault;
        }

        /** Keeps the first fault; a broken token then ends all that is being read. */
        private void fail() {
            if (fault == NONE) {
                fault = place;
            }
            token = TOKEN_BROKEN;
        }

        private void expect(int wanted) {
            if (token == wanted) {
                advance();
            } else {
                fail();
            }
        }

        /** Reads what is joined by the signs of a level, of parts of the next one. */
        private void readLevel(int level) {
            if (level == LEVEL_COMPARED && token == TOKEN_NOT) {
                readBehind(level, TOKEN_NOT);
                return;
            }
            if (level == LEVEL_ONE && token == TOKEN_MINUS) {
                readBehind(level, TOKEN_NEGATE);
                return;
            }
            if (level == LEVEL_ONE) {
                readOne();
                return;
            }
            readLevel(level + 1);
            int most = level == LEVEL_COMPARED ? 1 : MAX_TAPE;
            for (int k = 0; k < most && joins(level, token); k++) {
                int sign = token;
                advance();
                readLevel(level + 1);
                into.add(sign);
            }
        }

        private static boolean joins(int level, int sign) {
            switch (level) {
                case LEVEL_OR:
                    return sign == TOKEN_OR;
                case LEVEL_AND:
                    return sign == TOKEN_AND;
                case LEVEL_COMPARED:
                    return sign == TOKEN_LESS || sign == TOKEN_SAME;
                case LEVEL_SUM:
                    return sign == TOKEN_PLUS || sign == TOKEN_MINUS;
                case LEVEL_TERM:
                    return sign == TOKEN_TIMES;
                default:
                    return false;
            }
        }

        private void readOne() {
            if (token >= -NAMES) {
                into.add(token);
                advance();
            } else if (token == TOKEN_OPEN) {
                if (opens()) {
                    readLevel(LEVEL_OR);
                    open--;
                    expect(TOKEN_CLOSE);
                }
            } else {
                fail();
            }
        }

        /** Reads what belongs to a sign ahead of it. */
        private void readBehind(int level, int sign) {
            if (opens()) {
                readLevel(level);
                open--;
                into.add(sign);
            }
        }

        /** Opens what the token begins, and goes on behind it; false: too many are open. */
        private boolean opens() {
            if (open >= MOST_OPEN) {
                fail();
                return false;
            }
            open++;
            advance();
            return true;
        }

        private void advance() {
            while (next < size && isBlank(tape[next])) {
                next++;
            }
            place = next;
            if (next >= size) {
                token = TOKEN_END;
            } else if (isLetter(tape[next])) {
                token = nextWord();
            } else if (isDigit(tape[next])) {
                token = nextNumber();
            } else {
                token = signOf(tape[next]);
                next++;
            }
        }

        private int nextWord() {
            while (next < size && isLetter(tape[next])) {
                next++;
            }
            if (spells("in")) {
                return -1 - NAME_IN;
            }
            if (spells("out")) {
                return -1 - NAME_OUT;
            }
            if (spells("off")) {
                return -1 - NAME_OFF;
            }
            if (spells("hour")) {
                return -1 - NAME_HOUR;
            }
            if (spells("many")) {
                return -1 - NAME_MANY;
            }
            if (spells("stones")) {
                return -1 - NAME_STONES;
            }
            if (spells("may")) {
                return TOKEN_MAY;
            }
            if (spells("fine")) {
                return TOKEN_FINE;
            }
            if (spells("toll")) {
                return TOKEN_TOLL;
            }
            if (spells("or")) {
                return TOKEN_OR;
            }
            if (spells("and")) {
                return TOKEN_AND;
            }
            return spells("not") ? TOKEN_NOT : TOKEN_BROKEN;
        }

        private int nextNumber() {
            int number = 0;
            while (next < size && isDigit(tape[next])) {
                // Wraps when it is far too long, but then it is told by its length.
                number = 10 * number + tape[next] - '0';
                next++;
            }
            return next - place > MOST_DIGITS ? TOKEN_BROKEN : number;
        }

        /** Whether the word just passed is this one. */
        private boolean spells(String word) {
            if (next - place != word.length()) {
                return false;
            }
            for (int i = 0; i < word.length(); i++) {
                if (tape[place + i] != word.charAt(i)) {
                    return false;
                }
            }
            return true;
        }

        private static int signOf(int b) {
            switch (b) {
                case '(':
                    return TOKEN_OPEN;
                case ')':
                    return TOKEN_CLOSE;
                case ';':
                    return TOKEN_SEMICOLON;
                case '+':
                    return TOKEN_PLUS;
                case '-':
                    return TOKEN_MINUS;
                case '*':
                    return TOKEN_TIMES;
                case '<':
                    return TOKEN_LESS;
                case '=':
                    return TOKEN_SAME;
                default:
                    return TOKEN_BROKEN;
            }
        }

        private static boolean isBlank(int b) {
            return b == ' ' || b == '\n';
        }

        private static boolean isLetter(int b) {
            return b >= 'a' && b <= 'z';
        }

        private static boolean isDigit(int b) {
            return b >= '0' && b <= '9';
        }
    }

    /** A weighing of some carts at an hour; its rows are made once an hour. */
    private static final class Weighing {
        private final Scale beam;
        private final Yard yard;
        private final int[] weights = new int[MAX_CARTS];
        private final int[] worths = new int[MAX_CARTS];
        private final int[] names = new int[NAMES];
        private int come;
        private int inward;
        private int set;
        private int worth;
        int in;
        int out;
        int off;
        int stones;
        int bestSet;
        int bestBrings;

        Weighing(Scale beam, Yard yard) {
            this.beam = beam;
            this.yard = yard;
        }

        void prepare(int h, int[] comes) {
            come = 0;
            inward = 0;
            names[NAME_HOUR] = h;
            for (int c = 0; c < yard.size; c++) {
                Cart cart = yard.carts[c];
                int waited = waited(h, comes[c]);
                weights[c] = cart.weighs(waited);
                worths[c] = cart.worth(waited);
                if (comes[c] <= h) {
                    come |= 1 << c;
                }
                if (cart.inward == 1) {
                    inward |= 1 << c;
                }
            }
        }

        boolean isInward(int c) {
            return (inward >> c & 1) == 1;
        }

        int weightOf(int some) {
            int sum = 0;
            for (int c = 0; c < yard.size; c++) {
                if ((some >> c & 1) == 1) {
                    sum += weights[c];
                }
            }
            return sum;
        }

        private int worthOf(int some) {
            int sum = 0;
            for (int c = 0; c < yard.size; c++) {
                if ((some >> c & 1) == 1) {
                    sum += worths[c];
                }
            }
            return sum;
        }

        void weigh(int some) {
            set = some;
            worth = worthOf(some);
            in = weightOf(some & inward);
            out = weightOf(some & ~inward);
            int d = Math.abs(in * beam.settings[ARM_IN] - out * beam.settings[ARM_OUT]);
            off = beam.offOf(d);
            stones = off == NONE ? 0 : beam.stonesFor(d, off);
            names[NAME_IN] = in;
            names[NAME_OUT] = out;
            names[NAME_OFF] = off;
            names[NAME_MANY] = Integer.bitCount(some);
            names[NAME_STONES] = stones;
        }

        private boolean fillsPans(int some) {
            return within(Integer.bitCount(some & inward), 1, 2)
                && within(Integer.bitCount(some & ~inward), 1, 2);
        }

        boolean mayBe(Text law) {
            return fillsPans(set) && (set & ~come) == 0 && off != NONE && law.says(PART_MAY, names) == 1;
        }

        int brings(Text law) {
            return worth - law.says(PART_FINE, names) - law.says(PART_TOLL, names);
        }

        /** The weighing of free carts that brings most, if above 0, of like ones the least. */
        void findBest(int free, Text law) {
            bestSet = 0;
            bestBrings = 0;
            int end = 1 << yard.size;
            for (int some = 1; some < end; some++) {
                // None brings more than it is worth, as fine and toll are never below 0.
                if ((some & ~(free & come)) != 0 || !fillsPans(some) || worthOf(some) <= bestBrings) {
                    continue;
                }
                weigh(some);
                if (mayBe(law) && brings(law) > bestBrings) {
                    bestSet = some;
                    bestBrings = brings(law);
                }
            }
        }
    }

    /** Weighings of one against one at an hour, no cart in two of them. */
    private static final class Pairs {
        private static final int NO_PAIR = -1000;

        private final Weighing weighing;
        private final Yard yard;
        private final int[] pays = new int[MAX_CARTS * MAX_CARTS];
        final int[] others = new int[MAX_CARTS];

        Pairs(Weighing weighing, Yard yard) {
            this.weighing = weighing;
            this.yard = yard;
        }

        void prepare(int h, Text law) {
            weighing.prepare(h, yard.comes);
            for (int c = 0; c < yard.size; c++) {
                for (int other = 0; other < yard.size; other++) {
                    pays[MAX_CARTS * c + other] = payOf(c, other, law);
                }
            }
        }

        private int payOf(int c, int other, Text law) {
            if (!weighing.isInward(c) || weighing.isInward(other)) {
                return NO_PAIR;
            }
            weighing.weigh(1 << c | 1 << other);
            return weighing.mayBe(law) ? weighing.brings(law) : NO_PAIR;
        }

        private boolean fits(int c, int other, int used) {
            return (used >> other & 1) == 0 && pays[MAX_CARTS * c + other] != NO_PAIR;
        }

        int mostPairs() {
            return most(0, 0, false);
        }

        int mostBrought() {
            return most(0, 0, true);
        }

        /** The most that carts inward from c on, against others not used, bring (or how many they are). */
        private int most(int c, int used, boolean paid) {
            if (c >= yard.size || c >= MAX_CARTS) {
                return 0;
            }
            int most = most(c + 1, used, paid);
            for (int other = 0; weighing.isInward(c) && other < yard.size; other++) {
                if (fits(c, other, used)) {
                    int pay = paid ? pays[MAX_CARTS * c + other] : 1;
                    most = Math.max(most, pay + most(c + 1, used | 1 << other, paid));
                }
            }
            return most;
        }

        /** Tells each cart's other one by the first rows of those that bring most. */
        void choose() {
            for (int c = 0; c < MAX_CARTS; c++) {
                others[c] = NONE;
            }
            int used = 0;
            for (int c = 0; c < yard.size; c++) {
                int other = weighing.isInward(c) ? firstOther(c, used) : NONE;
                if (other != NONE) {
                    others[c] = other;
                    others[other] = c;
                    used |= 1 << other;
                }
            }
        }

        private int firstOther(int c, int used) {
            int most = most(c, used, true);
            if (most(c + 1, used, true) == most) {
                return NONE;
            }
            for (int other = 0; other < yard.size; other++) {
                if (fits(c, other, used)
                    && pays[MAX_CARTS * c + other] + most(c + 1, used | 1 << other, true) == most) {
                    return other;
                }
            }
            return NONE;
        }
    }

    /** A day, as it is or as it is thought of: it has its own row of hours at which carts come. */
    private static final class Day {
        private static final long LOT_FACTOR = 48271;
        private static final long LOT_MODULUS = 2147483647;

        private final Weighing weighing;
        private final Yard yard;
        final int[] comes = new int[MAX_CARTS];
        final int[] rowHours = new int[HOURS];
        final int[] rowSets = new int[HOURS];
        int rows;
        int earned;
        int through;
        int moreIn;
        int longestWaited;

        Day(Weighing weighing, Yard yard) {
            this.weighing = weighing;
            this.yard = yard;
        }

        void takeComes() {
            System.arraycopy(yard.comes, 0, comes, 0, MAX_CARTS);
        }

        void drawComes(int seed) {
            long lot = seed + 1L;
            for (int c = 0; c < yard.size; c++) {
                lot = lot * LOT_FACTOR % LOT_MODULUS;
                comes[c] = (int) (lot % HOURS);
            }
        }

        /** Goes through so many hours, but weighs nothing at the one held, nor a cart that never comes. */
        void run(int hours, int held, int coming, Text law) {
            rows = 0;
            earned = 0;
            through = 0;
            moreIn = 0;
            longestWaited = 0;
            for (int h = 0; h < hours && h < HOURS; h++) {
                if (h != held) {
                    weighing.prepare(h, comes);
                    weighing.findBest(coming & ~through, law);
                    noteBest(h);
                }
            }
        }

        private void noteBest(int h) {
            int set = weighing.bestSet;
            if (set == 0 || rows >= HOURS) {
                return;
            }
            weighing.weigh(set);
            rowHours[rows] = h;
            rowSets[rows] = set;
            rows++;
            earned += weighing.bestBrings;
            through |= set;
            moreIn += weighing.in - weighing.out;
            for (int c = 0; c < yard.size; c++) {
                if ((set >> c & 1) == 1) {
                    longestWaited = Math.max(longestWaited, waited(h, comes[c]));
                }
            }
        }

        /** How long the longest of those left is there at hour n. */
        int longestLeft(int n) {
            int longest = 0;
            for (int c = 0; c < yard.size; c++) {
                if ((through >> c & 1) == 0) {
                    longest = Math.max(longest, waited(n, comes[c]));
                }
            }
            return longest;
        }

        int hourOf(int c) {
            for (int row = 0; row < rows; row++) {
                if ((rowSets[row] >> c & 1) == 1) {
                    return rowHours[row];
                }
            }
            return NONE;
        }

        int setAt(int h) {
            for (int row = 0; row < rows; row++) {
                if (rowHours[row] == h) {
                    return rowSets[row];
                }
            }
            return 0;
        }

        boolean isToldBy(Sheet sheet) {
            if (sheet.size != 2 * rows) {
                return false;
            }
            for (int row = 0; row < rows; row++) {
                if (sheet.cells[2 * row] != rowHours[row] || sheet.cells[2 * row + 1] != rowSets[row]) {
                    return false;
                }
            }
            return true;
        }
    }

    /** A row of numbers of a sort, or missing. */
    private static final class Sheet {
        int sort = MISSING;
        int size;
        final int[] cells = new int[MAX_CELLS];

        void become(int newSort, int newSize) {
            sort = newSort;
            size = newSize;
            for (int i = 0; i < MAX_CELLS; i++) {
                cells[i] = 0;
            }
        }

        void put(int i, int v) {
            if (!within(i, 0, size - 1)) {
                return;
            }
            switch (sort) {
                case 0:
                    cells[i] = (byte) v;
                    break;
                case 1:
                    cells[i] = (short) v;
                    break;
                default:
                    cells[i] = v;
            }
        }

        /** Whether n places from i on lie in it. */
        boolean holds(int i, int n) {
            return n >= 0 && within(i, 0, size) && n <= size - i;
        }
    }

    /** What an image keeps. */
    private static final class Image {
        boolean isKept;
        int lawNumber;
        private final int[] settings = new int[SLACK + 1];
        private final int[] stones = new int[MAX_STONES];
        private int stoneCount;
        private final int[] comes = new int[MAX_CARTS];
        private final int[] inward = new int[MAX_CARTS];
        private int cartCount;

        void keep(Scale beam, Yard yard, int law) {
            isKept = true;
            lawNumber = law;
            System.arraycopy(beam.settings, 0, settings, 0, SLACK + 1);
            System.arraycopy(beam.stones, 0, stones, 0, MAX_STONES);
            stoneCount = beam.stoneCount;
            System.arraycopy(yard.comes, 0, comes, 0, MAX_CARTS);
            for (int c = 0; c < MAX_CARTS; c++) {
                inward[c] = yard.carts[c].inward;
            }
            cartCount = yard.size;
        }

        void giveBack(Scale beam, Yard yard) {
            System.arraycopy(settings, 0, beam.settings, 0, SLACK + 1);
            System.arraycopy(stones, 0, beam.stones, 0, MAX_STONES);
            beam.stoneCount = stoneCount;
            beam.layAll();
            System.arraycopy(comes, 0, yard.comes, 0, MAX_CARTS);
            for (int c = 0; c < MAX_CARTS; c++) {
                yard.carts[c].inward = inward[c];
            }
            yard.size = cartCount;
        }
    }
}
