/** Promises 32 to 35 and the terms of lots and images, sentence by sentence. */
final class LotSentences {
    private static final int BAD = -2;
    private static final int STATE = -3;
    private static final long NO = -4611686018427387904L;

    /** Seeds, and the hours at which ten carts come by them, reckoned beside the program. */
    private static final int[][] HOURS = {
        {0, 1, 4, 6, 7, 1, 3, 1, 5, 1, 1},
        {1, 2, 8, 5, 7, 5, 6, 5, 0, 2, 5},
        {44487, 8, 8, 4, 4, 4, 8, 8, 8, 6, 9},
        {44488, 2, 5, 3, 1, 8, 4, 9, 3, 7, 3},
        {99999, 6, 9, 5, 3, 5, 4, 1, 0, 0, 3},
    };

    private final Sentences s;

    LotSentences(Sentences s) {
        this.s = s;
    }

    void ask() {
        terms();
        promise32();
        promise33();
        promise33Lines();
        promise33Refused();
        promise34();
        promise35();
        promise35Again();
        promise35OfInwardOnes();
        promise35OfWhatItKeeps();
    }

    /** Ten carts, of which a day weighs these two alone, at the later one's hour: 10 and that hour is EARNED. */
    private static WeighedGate pairOf(int first, int second) {
        WeighedGate x = Gates.under("may 1;fine 0;toll 90 - hour;");
        for (int c = 0; c < 10; c++) {
            x.cart(c == second ? 0 : 1, 0, c == first || c == second ? 50 : 1 + c, 50, 0);
        }
        return x;
    }

    private void terms() {
        s.of(Sentences.TERMS, "DRAWN by a SEED (0 .. 99999): for each CART, by numbers, a LOT: "
            + "it COMES at HOUR LOT modulo 10.");
        for (int[] row : HOURS) {
            for (int c = 1; c < 10; c++) {
                int later = Math.max(row[c], row[c + 1]);
                s.is("of seed " + row[0] + ", cart " + c, 10 + later, pairOf(c - 1, c).drawn(row[0], 0));
            }
        }
        s.of(Sentences.TERMS, "LOTS: the first is (SEED and 1) times 48271 modulo 2147483647,");
        int[] seeds = {0, 2, 4, 8, 9, 44487, 44488, 99999};
        int[] hours = {1, 3, 5, 9, 0, 8, 2, 6};
        for (int i = 0; i < seeds.length; i++) {
            s.is("the first of seed " + seeds[i], hours[i], firstHour(seeds[i]));
        }
        s.of(Sentences.TERMS, "each further one the last times 48271 modulo 2147483647.");
        s.is("1, 4", 4, pairOf(0, 1).drawn(0, 0) - 10);
        s.is("2, 5 behind the modulus", 5, pairOf(0, 1).drawn(44488, 0) - 10);
    }

    /** The hour of the first cart: beside it come nine like ones, each rich enough to tell its hour. */
    private static int firstHour(int seed) {
        for (int h = 0; h < 9; h++) {
            WeighedGate x = Gates.under("may hour = " + h + ";fine 0;toll 0;");
            Gates.in(x, 9, 99);
            for (int c = 1; c < 10; c++) {
                Gates.out(x, 9, 0);
            }
            if ((x.drawn(seed, 1) & 1) == 1) {
                return h;
            }
        }
        return 9;
    }

    private void promise32() {
        s.of(32, "DRAWN, by DUSK:");
        WeighedGate x = pairOf(0, 1);
        s.is("at 9", 19, x.drawn(99999, 0));
        s.is("when it comes stays", 0, x.cartTold(1, 0));
        s.is("the day stays", 10, x.dusk(10, 0));
        s.of(32, "what 0 all EARNED,");
        s.is("at 4", 14, x.drawn(0, 0));
        s.is("of no carts", 0, new WeighedGate().drawn(5, 0));
        s.of(32, "1 CARTS (bits) that are THROUGH.");
        s.is("the first two", 3, x.drawn(0, 1));
        s.is("the last two", 768, pairOf(8, 9).drawn(0, 1));
        s.is("of no carts", 0, new WeighedGate().drawn(5, 1));
        s.of(32, "BAD.");
        s.each("seed", BAD, seed -> x.drawn(seed, 0), Gates.LEAST, -1, 100000, Gates.MOST);
        s.each("what", BAD, what -> x.drawn(0, what), Gates.LEAST, -1, 2, Gates.MOST);
        s.is("the first seed", 3, x.drawn(0, 1));
        s.is("the last seed", 3, x.drawn(99999, 1));
    }

    private void odd(WeighedGate x, int c, int seed, int seeds, long above, long below) {
        s.row("odds(" + c + ", " + seed + ", " + seeds + ", part)", part -> x.odds(c, seed, seeds, part), above, below);
    }

    /** Two carts that are weighed ahead of an hour, and one that never is. */
    private static WeighedGate ahead(int hour) {
        WeighedGate x = Gates.under("may hour < " + hour + ";fine 0;toll 0;");
        Gates.in(x, 5, 5);
        Gates.out(x, 5, 5);
        Gates.out(x, 6, 5);
        return x;
    }

    private void promise33() {
        // By seeds 0 .. 5 the two come at hours 1, 4; 2, 8; 3, 2; 4, 6; 5, 0; 6, 4.
        WeighedGate x = ahead(5);
        s.of(33, "In how many of so many (1 .. 10) seeds,");
        odd(x, 0, 0, 1, 1, 1);
        odd(x, 0, 1, 1, 0, 1);
        odd(ahead(10), 0, 0, 10, 1, 1);
        odd(x, 2, 0, 10, 0, 1);
        s.of(33, "SEED and each 1 more");
        odd(x, 0, 0, 3, 2, 3);
        odd(x, 0, 1, 3, 1, 3);
        odd(x, 0, 2, 2, 1, 2);
        // By seeds 99999, 100000 the two come at 6, 9; 7, 3; by 100008 at 5, 8.
        s.of(33, "(they may pass 99999),");
        WeighedGate y = ahead(9);
        odd(y, 0, 99999, 1, 0, 1);
        odd(y, 0, 99999, 2, 1, 2);
        s.is("the last one of ten", ninth(y) + 1, tenth(y));
        s.of(33, "DRAWN, a CART is THROUGH by DUSK:");
        odd(x, 1, 0, 1, 1, 1);
        odd(x, 1, 1, 1, 0, 1);
        odd(x, 2, 0, 1, 0, 1);
        s.is("when it comes stays", 0, x.cartTold(0, 0));
    }

    private static long ninth(WeighedGate y) {
        return y.odds(0, 99999, 9, 0) * 9 / y.odds(0, 99999, 9, 1);
    }

    private static long tenth(WeighedGate y) {
        return y.odds(0, 99999, 10, 0) * 10 / y.odds(0, 99999, 10, 1);
    }

    private void promise33Lines() {
        WeighedGate x = ahead(5);
        s.of(33, "part 0 above, 1 below the line,");
        s.is("above", 2, x.odds(0, 0, 3, 0));
        s.is("below", 3, x.odds(0, 0, 3, 1));
        s.of(33, "in lowest terms.");
        odd(x, 0, 0, 4, 1, 2);
        odd(x, 0, 1, 1, 0, 1);
        odd(ahead(10), 0, 0, 1, 1, 1);
        odd(ahead(10), 0, 0, 7, 1, 1);
        odd(x, 2, 0, 7, 0, 1);
    }

    private void promise33Refused() {
        WeighedGate x = ahead(5);
        s.of(33, "NO: none such.");
        s.each("cart", NO, c -> x.odds(c, 0, 1, 0), Gates.LEAST, -1, 3, 10, Gates.MOST);
        s.each("seed", NO, seed -> x.odds(0, seed, 1, 0), Gates.LEAST, -1, 100000, Gates.MOST);
        s.each("seeds", NO, seeds -> x.odds(0, 0, seeds, 0), Gates.LEAST, -1, 0, 11, Gates.MOST);
        s.each("part", NO, part -> x.odds(0, 0, 1, part), Gates.LEAST, -1, 2, Gates.MOST);
        s.is("of no carts", NO, new WeighedGate().odds(0, 0, 1, 0));
    }

    // ---- promises 34, 35

    private void promise34() {
        s.of(34, "AN IMAGE is kept:");
        WeighedGate x = new WeighedGate();
        x.image();
        s.is("it is there", 0, x.back());
        x.stone(7);
        x.image();
        x.sell();
        x.back();
        s.is("the later one", 7, x.stoneTold(0));
        s.of(34, "how many CARTS.");
        s.is("none", 0, x.image());
        for (int c = 1; c <= 10; c++) {
            Gates.in(x, 5, 5);
            s.is("carts", c, x.image());
        }
        s.is("nothing is changed", 10, x.count(4));
    }

    private void promise35() {
        s.of(35, "STATE: there is none.");
        WeighedGate x = new WeighedGate();
        s.is("at first", STATE, x.back());
        x.cart(1, 0, 5, 5, 5);
        s.is("then", STATE, x.back());
        s.is("the cart stays", 1, x.count(4));
        s.of(35, "CARTS that came since are none:");
        x.image();
        x.cart(1, 0, 6, 6, 6);
        x.set(1, 0, 6);
        x.cart(0, 4, 7, 7, 7);
        x.back();
        s.each("told", -5, c -> x.cartTold(c, 0), 1, 2);
        s.is("the first one stays", 5, x.cartTold(0, 3));
        s.is("the next one's number", 1, x.cart(0, 0, 8, 8, 8));
        s.row("the next one", what -> x.cartTold(1, what), 0, 0, 0, 8, 8, 8);
        s.of(35, "how many there are.");
        s.is("one", 1, x.back());
        WeighedGate y = new WeighedGate();
        y.image();
        Gates.in(y, 5, 5);
        s.is("none", 0, y.back());
        for (int c = 0; c < 10; c++) {
            Gates.in(y, 5, 5);
        }
        y.image();
        s.is("ten", 10, y.back());
    }

    private void promise35Again() {
        s.of(35, "All that it keeps is as in THE IMAGE,");
        WeighedGate x = new WeighedGate();
        x.stone(3);
        x.cart(0, 4, 5, 5, 5);
        x.image();
        for (int time = 0; time < 3; time++) {
            x.sell();
            x.stone(8);
            x.scale(2, 5);
            x.set(0, 0, 4);
            x.set(0, 1, 1);
            x.back();
            s.is("stone", 3, x.stoneTold(0));
            s.is("made by it", 1, x.make(3));
            s.is("not made", -1, x.make(8));
            s.is("slack", 0, x.count(2));
            s.is("hour", 0, x.cartTold(0, 0));
            s.is("inward", 0, x.cartTold(0, 1));
        }
    }

    private void promise35OfInwardOnes() {
        WeighedGate x = new WeighedGate();
        for (int c = 0; c < 10; c++) {
            x.cart(1 - c % 2, 4, 5, 5, 5);
        }
        x.image();
        for (int c = 0; c < 10; c++) {
            x.set(c, 1, c % 2);
            x.set(c, 0, c);
        }
        x.back();
        s.row("inward", c -> x.cartTold(c, 1), 1, 0, 1, 0, 1, 0, 1, 0, 1, 0);
        s.row("comes", c -> x.cartTold(c, 0), 0, 0, 0, 0, 0, 0, 0, 0, 0, 0);
    }

    private void promise35OfWhatItKeeps() {
        s.of(Sentences.TERMS, "AN IMAGE keeps THE SCALE, STONES, when CARTS COME, whether they are INWARD, "
            + "how many there are, THE LAW.");
        WeighedGate x = Gates.free();
        x.scale(0, 2);
        x.scale(1, 3);
        x.scale(2, 9);
        x.stone(7);
        x.stone(99);
        x.cart(0, 4, 5, 6, 7);
        x.cart(1, 4, 8, 9, 1);
        x.set(0, 0, 3);
        x.set(1, 0, 9);
        x.image();
        x.scale(0, 1);
        x.scale(1, 1);
        x.scale(2, 0);
        x.sell();
        x.sell();
        x.stone(1);
        x.set(0, 0, 8);
        x.set(1, 0, 0);
        x.set(0, 1, 1);
        x.set(1, 1, 0);
        x.cart(0, 0, 1, 1, 1);
        Due.read(x, "may 0;fine 2;toll 2;");
        x.force(2);
        x.feed(2, 1, 2, 3, 4, 5);
        x.sheet(0, 2, 1);
        x.back();
        s.row("count, texts and tape as they are", x::count, 2, 3, 9, 2, 2, 3, 1, 2);
        s.row("stones", x::stoneTold, 7, 99, -5);
        s.is("made by both", 2, x.make(106));
        s.is("not made", -1, x.make(1));
        s.row("the first cart", what -> x.cartTold(0, what), 3, 0, 4, 5, 6, 7);
        s.row("the second cart", what -> x.cartTold(1, what), 9, 1, 4, 8, 9, 1);
        s.is("sheets as they are", 1, x.cell(0, 0, 5));
        s.is("the law's fine", 0, x.asks(1, 0, 0, 0));
    }
}
