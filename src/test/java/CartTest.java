/** Promises 11 to 14: carts, what is set and told of them, what they weigh and are worth. */
final class CartTest {
    private final Due due = new Due();

    public static void main(String[] args) {
        CartTest test = new CartTest();
        test.cart();
        test.set();
        test.cartTold();
        test.at();
        test.atEdges();
        test.due.end();
    }

    private void cart() {
        WeighedGate x = new WeighedGate();
        int[][] wrong = {
            {-1, 0, 5, 5, 5}, {2, 0, 5, 5, 5}, {0, -1, 5, 5, 5}, {0, 6, 5, 5, 5}, {0, 0, 0, 5, 5},
            {0, 0, 100, 5, 5}, {0, 0, 5, -1, 5}, {0, 0, 5, 100, 5}, {0, 0, 5, 5, -1}, {0, 0, 5, 5, 10},
        };
        for (int[] five : wrong) {
            due.is("wrong", WeighedGate.BAD, x.cart(five[0], five[1], five[2], five[3], five[4]));
        }
        due.is("none came", 0, x.count(4));
        due.is("the least", 0, x.cart(0, 0, 1, 0, 0));
        due.is("the most", 1, x.cart(1, 5, 99, 99, 9));
        for (int c = 2; c < 10; c++) {
            due.is("its number", c, x.cart(c % 2, c % 6, c, c, c));
        }
        due.is("full", WeighedGate.FULL, x.cart(0, 0, 5, 5, 5));
        due.is("bad ahead of full", WeighedGate.BAD, x.cart(0, 0, 0, 5, 5));
        due.is("ten", 10, x.count(4));
    }

    private void set() {
        WeighedGate x = new WeighedGate();
        x.cart(1, 0, 5, 5, 5);
        x.cart(0, 4, 5, 5, 5);
        due.is("it came at 0", 0, x.set(0, 0, 9));
        due.is("what was", 9, x.set(0, 0, 3));
        due.is("no such cart", -5, x.set(2, 0, 3));
        due.is("no such cart", -5, x.set(-1, 0, 3));
        due.is("no such cart ahead", -5, x.set(2, 7, 33));
        due.is("what below", -7, x.set(0, -1, 0));
        due.is("what above", -7, x.set(0, 2, 0));
        due.is("hour below", -7, x.set(0, 0, -1));
        due.is("hour above", -7, x.set(0, 0, 10));
        due.is("inward below", -7, x.set(1, 1, -1));
        due.is("inward above", -7, x.set(1, 1, 2));
        due.is("not turned", WeighedGate.STATE, x.set(0, 1, 0));
        due.is("not turned to what it is", WeighedGate.STATE, x.set(0, 1, 1));
        due.is("the number is refused first", -7, x.set(0, 1, 2));
        due.is("turned", 0, x.set(1, 1, 1));
        due.is("turned to what it is", 1, x.set(1, 1, 1));
        due.is("turned", 1, x.cartTold(1, 1));
        due.is("turned back", 1, x.set(1, 1, 0));
        due.is("turned back", 0, x.cartTold(1, 1));
        due.is("its hour stays", 3, x.cartTold(0, 0));
        due.is("the other's, too", 0, x.cartTold(1, 0));
        for (int kind = 0; kind < 6; kind++) {
            WeighedGate y = new WeighedGate();
            y.cart(1, kind, 5, 5, 5);
            due.is("turning kind " + kind, kind == 4 ? 1 : WeighedGate.STATE, y.set(0, 1, 0));
            due.is("turned kind " + kind, kind == 4 ? 0 : 1, y.cartTold(0, 1));
        }
    }

    private void cartTold() {
        WeighedGate x = new WeighedGate();
        x.cart(0, 0, 1, 1, 1);
        x.cart(1, 3, 44, 55, 6);
        x.set(1, 0, 7);
        int[] told = {7, 1, 3, 44, 55, 6};
        for (int what = 0; what < 6; what++) {
            due.is("told " + what, told[what], x.cartTold(1, what));
        }
        due.is("what below", -7, x.cartTold(1, -1));
        due.is("what above", -7, x.cartTold(1, 6));
        due.is("no such cart", -5, x.cartTold(2, 0));
        due.is("no such cart", -5, x.cartTold(-1, 0));
        due.is("no such cart ahead", -5, x.cartTold(2, 6));
    }

    private void at() {
        int[][] weighs = {
            {10, 10, 10, 10, 10, 10, 10, 10, 10, 10},
            {10, 10, 10, 10, 10, 10, 10, 10, 10, 10},
            {10, 10, 10, 13, 16, 19, 22, 25, 28, 31},
            {10, 10, 10, 10, 10, 10, 10, 10, 10, 10},
            {10, 10, 10, 10, 10, 10, 10, 10, 10, 10},
            {10, 10, 10, 7, 4, 1, 1, 1, 1, 1},
        };
        int[][] worth = {
            {20, 20, 20, 20, 20, 20, 20, 20, 20, 20},
            {20, 20, 20, 17, 14, 11, 8, 5, 2, 0},
            {20, 20, 20, 20, 20, 20, 20, 20, 20, 20},
            {40, 40, 40, 34, 28, 22, 0, 0, 0, 0},
            {17, 17, 17, 17, 17, 17, 17, 17, 17, 17},
            {20, 20, 20, 20, 20, 20, 20, 20, 20, 20},
        };
        for (int kind = 0; kind < 6; kind++) {
            WeighedGate x = new WeighedGate();
            x.cart(1, kind, 10, 20, 3);
            x.set(0, 0, 2);
            for (int h = 0; h < 10; h++) {
                due.is("weighs " + kind + " at " + h, weighs[kind][h], x.at(0, h, 0));
                due.is("worth " + kind + " at " + h, worth[kind][h], x.at(0, h, 1));
            }
        }
    }

    private void atEdges() {
        WeighedGate x = new WeighedGate();
        x.cart(0, 4, 10, 5, 9);
        x.cart(0, 3, 10, 5, 9);
        x.cart(0, 2, 99, 5, 9);
        due.is("a person not below 0", 0, x.at(0, 0, 1));
        due.is("a rushed one", 10, x.at(1, 0, 1));
        due.is("a rushed one not below 0", 0, x.at(1, 1, 1));
        due.is("the heaviest", 180, x.at(2, 9, 0));
        due.is("no such cart", -5, x.at(3, 0, 0));
        due.is("no such cart", -5, x.at(-1, 0, 0));
        due.is("no such cart ahead", -5, x.at(3, 10, 0));
        due.is("hour below", -7, x.at(0, -1, 0));
        due.is("hour above", -7, x.at(0, 10, 0));
        due.is("what below", -7, x.at(0, 0, -1));
        due.is("what above", -7, x.at(0, 0, 2));
    }
}
