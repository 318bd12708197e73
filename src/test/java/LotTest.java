/** Promises 32 to 35: days by lot, odds, images. */
final class LotTest {
    private final Due due = new Due();

    public static void main(String[] args) {
        LotTest test = new LotTest();
        test.drawn();
        test.drawnRefusals();
        test.odds();
        test.oddsRefusals();
        test.image();
        test.imageOfLess();
        test.imageAgain();
        test.due.end();
    }

    /** Ten carts, of which a day weighs the first two alone, at the later one's hour. */
    private static WeighedGate pairOf(int first, int second) {
        WeighedGate x = new WeighedGate();
        Due.read(x, "may 1;fine 0;toll 90 - hour;");
        x.force(1);
        for (int c = 0; c < 10; c++) {
            int weight = c == first || c == second ? 50 : 1 + c;
            x.cart(c == second ? 0 : 1, 0, weight, 50, 0);
        }
        return x;
    }

    private void drawn() {
        int[][] hours = {
            {0, 1, 4, 6, 7, 1, 3, 1, 5, 1, 1},
            {1, 2, 8, 5, 7, 5, 6, 5, 0, 2, 5},
            {99999, 6, 9, 5, 3, 5, 4, 1, 0, 0, 3},
        };
        for (int[] row : hours) {
            for (int c = 1; c < 10; c++) {
                WeighedGate x = pairOf(c - 1, c);
                int later = Math.max(row[c], row[c + 1]);
                due.is("earned at hour " + later + " of seed " + row[0], 10 + later, x.drawn(row[0], 0));
                due.is("those two", 3 << c - 1, x.drawn(row[0], 1));
                due.is("told by none", 0, x.cartTold(c, 0));
            }
        }
        due.is("of none", 0, new WeighedGate().drawn(5, 0));
        due.is("of none", 0, new WeighedGate().drawn(5, 1));
    }

    private void drawnRefusals() {
        WeighedGate x = pairOf(0, 1);
        due.is("seed below", WeighedGate.BAD, x.drawn(-1, 0));
        due.is("seed above", WeighedGate.BAD, x.drawn(100000, 0));
        due.is("what below", WeighedGate.BAD, x.drawn(0, -1));
        due.is("what above", WeighedGate.BAD, x.drawn(0, 2));
    }

    private void odd(WeighedGate x, int c, int seed, int seeds, int above, int below) {
        due.is("above of " + c + " from " + seed + ", " + seeds, above, x.odds(c, seed, seeds, 0));
        due.is("below of " + c + " from " + seed + ", " + seeds, below, x.odds(c, seed, seeds, 1));
    }

    private void odds() {
        // Cart 0 comes by seeds 0 .. 5 at hours 1 .. 6, cart 1 at 4, 8, 2, 6, 0, 4.
        WeighedGate x = new WeighedGate();
        Due.read(x, "may hour < 5;fine 0;toll 0;");
        x.force(1);
        x.cart(1, 0, 5, 5, 0);
        x.cart(0, 0, 5, 5, 0);
        x.cart(0, 0, 6, 5, 0);
        odd(x, 0, 0, 1, 1, 1);
        odd(x, 0, 1, 1, 0, 1);
        odd(x, 0, 0, 2, 1, 2);
        odd(x, 1, 0, 3, 2, 3);
        odd(x, 1, 0, 4, 1, 2);
        odd(x, 0, 1, 3, 1, 3);
        odd(x, 2, 0, 10, 0, 1);
        // By seeds 99999, 100000 cart 0 comes at 6, 7; by 100008 at 5, its other one at 8.
        Due.read(x, "may hour < 9;fine 0;toll 0;");
        x.force(2);
        odd(x, 0, 99999, 1, 0, 1);
        odd(x, 0, 99999, 2, 1, 2);
        odd(x, 0, 99998, 3, 2, 3);
        due.is("when it comes stays", 0, x.cartTold(0, 0));
        WeighedGate y = new WeighedGate();
        Due.read(y, "may 1;fine 0;toll 0;");
        y.force(1);
        y.cart(1, 0, 5, 5, 0);
        y.cart(0, 0, 5, 5, 0);
        odd(y, 0, 0, 10, 1, 1);
    }

    private void oddsRefusals() {
        WeighedGate x = pairOf(0, 1);
        due.is("no such cart", WeighedGate.NO, x.odds(-1, 0, 1, 0));
        due.is("no such cart", WeighedGate.NO, x.odds(10, 0, 1, 0));
        due.is("seed below", WeighedGate.NO, x.odds(0, -1, 1, 0));
        due.is("seed above", WeighedGate.NO, x.odds(0, 100000, 1, 0));
        due.is("no seeds", WeighedGate.NO, x.odds(0, 0, 0, 0));
        due.is("too many seeds", WeighedGate.NO, x.odds(0, 0, 11, 0));
        due.is("part below", WeighedGate.NO, x.odds(0, 0, 1, -1));
        due.is("part above", WeighedGate.NO, x.odds(0, 0, 1, 2));
        due.holds("the last seed, ten of them", x.odds(0, 99999, 10, 1) >= 1);
    }

    private void image() {
        WeighedGate x = new WeighedGate();
        Due.read(x, "may 1;fine 1;toll 1;");
        x.force(1);
        x.scale(0, 2);
        x.scale(1, 3);
        x.scale(2, 4);
        x.stone(7);
        x.stone(9);
        x.cart(0, 4, 5, 6, 7);
        x.cart(1, 0, 8, 9, 1);
        x.set(0, 0, 3);
        due.is("two carts", 2, x.image());
        x.scale(0, 1);
        x.scale(1, 1);
        x.scale(2, 0);
        x.sell();
        x.stone(1);
        x.stone(2);
        x.set(0, 0, 8);
        x.set(0, 1, 1);
        x.set(1, 0, 2);
        x.cart(0, 0, 1, 1, 1);
        Due.read(x, "may 0;fine 2;toll 2;");
        x.force(2);
        x.feed(2, 1, 2, 3, 4, 5);
        x.sheet(0, 2, 1);
        due.is("as many as then", 2, x.back());
        int[] counts = {2, 3, 4, 2, 2, 3, 1, 2};
        for (int what = 0; what < 8; what++) {
            due.is("count " + what, counts[what], x.count(what));
        }
        due.is("stone 0", 7, x.stoneTold(0));
        due.is("stone 1", 9, x.stoneTold(1));
        due.is("no third stone", -5, x.stoneTold(2));
        due.is("made by these", 2, x.make(16));
        due.is("not made by those", -1, x.make(1));
        due.is("cart 0 comes", 3, x.cartTold(0, 0));
        due.is("cart 0 inward", 0, x.cartTold(0, 1));
        due.is("cart 1 comes", 0, x.cartTold(1, 0));
        due.is("cart 1 inward", 1, x.cartTold(1, 1));
        due.is("no cart 2", -5, x.cartTold(2, 0));
        due.is("sheets stay", 1, x.cell(0, 0, 5));
        due.is("the law's fine", 1, x.asks(1, 0, 0, 0));
        due.is("the next cart", 2, x.cart(1, 2, 3, 4, 5));
        due.is("it comes at 0", 0, x.cartTold(2, 0));
    }

    private void imageOfLess() {
        WeighedGate x = new WeighedGate();
        due.is("none yet", WeighedGate.STATE, x.back());
        due.is("of none", 0, x.image());
        x.cart(0, 0, 1, 1, 1);
        x.set(0, 0, 6);
        x.stone(4);
        due.is("none again", 0, x.back());
        due.is("no stone", 0, x.count(3));
        due.is("none made", -1, x.make(4));
        due.is("a new one", 0, x.cart(1, 1, 1, 1, 1));
        due.is("comes at 0", 0, x.cartTold(0, 0));
        due.is("is inward", 1, x.cartTold(0, 1));
    }

    private void imageAgain() {
        WeighedGate x = new WeighedGate();
        x.stone(1);
        x.cart(0, 4, 1, 1, 1);
        x.image();
        x.set(0, 0, 5);
        x.stone(2);
        due.is("back", 1, x.back());
        due.is("comes", 0, x.cartTold(0, 0));
        x.set(0, 0, 7);
        x.set(0, 1, 1);
        due.is("back to the same", 1, x.back());
        due.is("comes", 0, x.cartTold(0, 0));
        due.is("not inward", 0, x.cartTold(0, 1));
        x.set(0, 1, 1);
        x.image();
        x.set(0, 1, 0);
        x.back();
        due.is("inward", 1, x.cartTold(0, 1));
        x.set(0, 0, 7);
        x.cart(0, 0, 1, 1, 1);
        due.is("a later one", 2, x.image());
        x.set(0, 0, 2);
        due.is("back to the later one", 2, x.back());
        due.is("comes", 7, x.cartTold(0, 0));
    }
}
