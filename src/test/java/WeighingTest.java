/** Promises 19 to 22: weighings, one against one, the best. */
final class WeighingTest {
    private final Due due = new Due();

    public static void main(String[] args) {
        WeighingTest test = new WeighingTest();
        test.scales();
        test.pans();
        test.turned();
        test.off();
        test.fewerStones();
        test.arms();
        test.byTheLaw();
        test.pairs();
        test.pairsByRows();
        test.pairsThatCost();
        test.best();
        test.bestOfLikeOnes();
        test.due.end();
    }

    private void told(WeighedGate x, int set, int h, int... answers) {
        for (int what = 0; what < 6; what++) {
            due.is("scales(" + set + ", " + h + ", " + what + ")", answers[what], x.scales(set, h, what));
        }
    }

    private void scales() {
        WeighedGate x = new WeighedGate();
        told(x, 0, 0, 0, 0, 0, 0, 0, 0);
        due.is("no such cart", -5, x.scales(1, 0, 0));
        x.cart(1, 0, 10, 30, 0);
        x.cart(0, 2, 4, 5, 3);
        x.set(1, 0, 1);
        told(x, 0, 0, 0, 0, 0, 0, 0, 0);
        told(x, 1, 0, 0, 10, 0, -1, 0, 0);
        told(x, 2, 3, 0, 0, 10, -1, 0, 0);
        told(x, 3, 0, 0, 10, 4, -1, 0, 0);
        told(x, 3, 1, 0, 10, 4, -1, 0, 0);
        told(x, 3, 3, 1, 10, 10, 0, 0, 32);
        told(x, 3, 4, 0, 10, 13, -1, 0, 0);
        due.is("no such carts", -5, x.scales(4, 0, 0));
        due.is("no such carts", -5, x.scales(5, 0, 0));
        due.is("no such carts", -5, x.scales(-1, 0, 0));
        due.is("no such carts ahead", -5, x.scales(4, 10, 6));
        due.is("hour below", -7, x.scales(3, -1, 0));
        due.is("hour above", -7, x.scales(3, 10, 0));
        due.is("what below", -7, x.scales(3, 3, -1));
        due.is("what above", -7, x.scales(3, 3, 6));
    }

    private void pans() {
        WeighedGate x = Gates.free();
        int[] weights = {2, 2, 2, 2, 2, 6, 4};
        for (int c = 0; c < 7; c++) {
            x.cart(c < 3 ? 1 : 0, 0, weights[c], 1 << c, 0);
        }
        told(x, 0b0001001, 0, 1, 2, 2, 0, 0, 9);
        told(x, 0b0011011, 0, 1, 4, 4, 0, 0, 27);
        told(x, 0b1000011, 0, 1, 4, 4, 0, 0, 67);
        told(x, 0b0100111, 0, 0, 6, 6, 0, 0, 0);
        told(x, 0b0000011, 0, 0, 4, 0, -1, 0, 0);
        told(x, 0b0001000, 0, 0, 0, 2, -1, 0, 0);
        told(x, 0b1111111, 0, 0, 6, 14, -1, 0, 0);
        x.stone(2);
        told(x, 0b0000001, 0, 0, 2, 0, 0, 1, 0);
        told(x, 0b0001000, 0, 0, 0, 2, 0, 1, 0);
        due.is("no pan may be empty", 0b1010110, x.best(0, 0));
        x.sell();
        x.set(3, 0, 1);
        told(x, 0b0001001, 0, 0, 2, 2, 0, 0, 0);
        told(x, 0b0001001, 1, 1, 2, 2, 0, 0, 9);
        WeighedGate y = Gates.free();
        y.cart(1, 0, 6, 1, 0);
        for (int c = 1; c < 4; c++) {
            y.cart(0, 0, 2, 1, 0);
        }
        told(y, 15, 0, 0, 6, 6, 0, 0, 0);
        y.scale(2, 2);
        told(y, 7, 0, 1, 6, 4, 2, 0, 3);
    }

    private void turned() {
        WeighedGate x = Gates.free();
        x.cart(1, 4, 5, 9, 0);
        x.cart(1, 0, 5, 7, 0);
        told(x, 3, 0, 0, 10, 0, -1, 0, 0);
        x.set(0, 1, 0);
        told(x, 3, 0, 1, 5, 5, 0, 0, 16);
        due.is("one pair", 1, x.pairs(0, 0));
        due.is("turned", 1, x.against(0, 0));
        due.is("best", 3, x.best(0, 0));
        x.set(0, 1, 1);
        due.is("turned back: none", -1, x.against(0, 0));
        due.is("turned back: none", 0, x.pairs(0, 0));
        due.is("turned back: none", 0, x.best(0, 0));
    }

    private void off() {
        WeighedGate x = new WeighedGate();
        x.cart(1, 0, 10, 30, 0);
        x.cart(0, 0, 13, 5, 0);
        told(x, 3, 0, 0, 10, 13, -1, 0, 0);
        x.scale(2, 2);
        told(x, 3, 0, 0, 10, 13, -1, 0, 0);
        x.scale(2, 3);
        told(x, 3, 0, 1, 10, 13, 3, 0, 29);
        x.stone(5);
        told(x, 3, 0, 1, 10, 13, 2, 1, 31);
        x.stone(2);
        told(x, 3, 0, 1, 10, 13, 0, 2, 35);
        x.sell();
        x.sell();
        x.stone(1);
        told(x, 3, 2, 1, 10, 13, 2, 1, 29);
    }

    private void fewerStones() {
        int[] ofTwoAndSix = {0, 0, 1, 1, 2, 1, 1, 1, 2};
        int[] offThen = {0, 1, 0, 1, 0, 1, 0, 1, 0};
        for (int d = 0; d < 9; d++) {
            WeighedGate x = new WeighedGate();
            x.stone(2);
            x.stone(6);
            x.scale(2, 1);
            x.cart(1, 0, 10, 50, 0);
            x.cart(0, 0, 10 + d, 5, 0);
            told(x, 3, 0, 1, 10, 10 + d, offThen[d], ofTwoAndSix[d], 55 - 2 * offThen[d]);
        }
    }

    private void arms() {
        WeighedGate x = new WeighedGate();
        x.cart(1, 0, 10, 30, 0);
        x.cart(0, 0, 15, 5, 0);
        x.scale(0, 3);
        x.scale(1, 2);
        told(x, 3, 0, 1, 10, 15, 0, 0, 35);
        x.scale(0, 2);
        x.scale(1, 3);
        told(x, 3, 0, 0, 10, 15, -1, 0, 0);
        x.stone(26);
        told(x, 3, 0, 0, 10, 15, -1, 0, 0);
        x.scale(2, 1);
        told(x, 3, 0, 1, 10, 15, 1, 1, 33);
        WeighedGate y = new WeighedGate();
        for (int c = 0; c < 2; c++) {
            y.cart(1, 2, 99, 9, 9);
        }
        y.cart(0, 5, 1, 9, 9);
        y.scale(0, 3);
        y.scale(2, 9);
        for (int k = 0; k < 5; k++) {
            y.stone(99);
        }
        told(y, 7, 9, 0, 360, 1, -1, 0, 0);
    }

    private void byTheLaw() {
        WeighedGate x = Gates.under("may out < 5 and many = 2;fine in;toll stones*10+hour;");
        x.cart(1, 2, 3, 40, 1);
        x.cart(0, 0, 4, 5, 0);
        x.cart(0, 0, 5, 5, 0);
        x.stone(1);
        told(x, 3, 0, 1, 3, 4, 0, 1, 45 - 3 - 10);
        told(x, 3, 1, 1, 4, 4, 0, 0, 45 - 4 - 1);
        told(x, 3, 2, 1, 5, 4, 0, 1, 45 - 5 - 12);
        told(x, 5, 2, 0, 5, 5, 0, 0, 0);
        told(x, 7, 6, 0, 9, 9, 0, 0, 0);
        WeighedGate y = Gates.under("may 5;fine 0-50;toll 9999;");
        y.cart(1, 0, 3, 40, 1);
        y.cart(0, 0, 3, 5, 1);
        told(y, 3, 0, 1, 3, 3, 0, 0, -54);
    }

    private void pairs() {
        WeighedGate x = Gates.under("may 1;fine off;toll 0;");
        x.scale(2, 2);
        x.cart(1, 0, 5, 10, 0);
        x.cart(1, 0, 7, 20, 0);
        x.cart(0, 0, 5, 30, 0);
        x.cart(0, 0, 3, 1, 0);
        due.is("both", 2, x.pairs(0, 0));
        due.is("5 against 3, 7 against 5", 9 + 48, x.pairs(0, 1));
        due.is("others", 3, x.against(0, 0));
        due.is("others", 2, x.against(0, 1));
        due.is("others", 1, x.against(0, 2));
        due.is("others", 0, x.against(0, 3));
        x.set(1, 0, 5);
        due.is("one has not come", -1, x.against(4, 1));
        due.is("one has not come", 1, x.pairs(4, 0));
        due.is("one has not come", 40, x.pairs(4, 1));
        due.is("others", 2, x.against(4, 0));
        due.is("none", -1, x.against(4, 1));
        due.is("others", 0, x.against(4, 2));
        due.is("none", -1, x.against(4, 3));
        due.is("it has come", 57, x.pairs(5, 1));
        due.is("hour below", -5, x.pairs(-1, 0));
        due.is("hour above", -5, x.pairs(10, 0));
        due.is("hour ahead", -5, x.pairs(10, 2));
        due.is("what below", -7, x.pairs(0, -1));
        due.is("what above", -7, x.pairs(0, 2));
        due.is("hour below", -5, x.against(-1, 0));
        due.is("hour above", -5, x.against(10, 0));
        due.is("no such cart", -5, x.against(0, -1));
        due.is("no such cart", -5, x.against(0, 4));
    }

    private void pairsByRows() {
        WeighedGate x = Gates.free();
        x.cart(1, 0, 5, 10, 0);
        x.cart(1, 0, 5, 10, 0);
        x.cart(0, 0, 5, 1, 0);
        due.is("one", 1, x.pairs(0, 0));
        due.is("one", 11, x.pairs(0, 1));
        due.is("none is ahead of any", -1, x.against(0, 0));
        due.is("the second one", 2, x.against(0, 1));
        due.is("its other", 1, x.against(0, 2));
        x.cart(0, 0, 5, 1, 0);
        due.is("two", 2, x.pairs(0, 0));
        due.is("two", 22, x.pairs(0, 1));
        due.is("the first with the first", 2, x.against(0, 0));
        due.is("the second with the second", 3, x.against(0, 1));
        due.is("the first with the first", 0, x.against(0, 2));
        due.is("the second with the second", 1, x.against(0, 3));
        x.cart(0, 0, 5, 1, 0);
        due.is("the third is left", 2, x.against(0, 0));
        due.is("the third is left", 3, x.against(0, 1));
        due.is("the third is left", -1, x.against(0, 4));
        WeighedGate z = Gates.free();
        z.scale(2, 1);
        z.cart(1, 0, 6, 10, 0);
        z.cart(1, 0, 5, 20, 0);
        z.cart(0, 0, 5, 0, 0);
        z.cart(0, 0, 7, 0, 0);
        due.is("the second has but one", 30, z.pairs(0, 1));
        due.is("so the first takes the other", 3, z.against(0, 0));
        due.is("the second has but one", 2, z.against(0, 1));
        WeighedGate y = Gates.free();
        for (int c = 0; c < 10; c++) {
            y.cart(c % 2, 0, 5, 10, 0);
        }
        due.is("five", 5, y.pairs(0, 0));
        due.is("five", 100, y.pairs(0, 1));
        for (int c = 0; c < 10; c++) {
            due.is("others of ten", c % 2 == 0 ? c + 1 : c - 1, y.against(0, c));
        }
    }

    private void pairsThatCost() {
        WeighedGate x = Gates.under("may 1;fine 50;toll 0;");
        x.cart(1, 0, 5, 10, 0);
        x.cart(0, 0, 5, 10, 0);
        x.cart(1, 0, 7, 20, 0);
        x.cart(0, 0, 7, 30, 0);
        due.is("both may be", 2, x.pairs(0, 0));
        due.is("none is better", 0, x.pairs(0, 1));
        due.is("it costs", -1, x.against(0, 0));
        due.is("it brings 0", -1, x.against(0, 2));
        due.is("it brings 0", -1, x.against(0, 3));
        due.is("of none", 0, Gates.free().pairs(0, 0));
        due.is("of none", 0, Gates.free().pairs(0, 1));
        WeighedGate y = Gates.under("may not in = 5;fine 0;toll 0;");
        y.cart(1, 0, 5, 10, 0);
        y.cart(0, 0, 5, 10, 0);
        due.is("may not be", 0, y.pairs(0, 0));
        due.is("may not be", -1, y.against(0, 0));
    }

    private void best() {
        WeighedGate x = Gates.under("may 1;fine 9;toll hour*11;");
        due.is("of none", 0, x.best(0, 0));
        due.is("of none", 0, x.best(0, 1));
        x.cart(0, 0, 5, 10, 0);
        x.cart(1, 0, 5, 21, 0);
        x.cart(1, 0, 8, 40, 0);
        x.cart(0, 0, 3, 13, 0);
        x.set(3, 0, 1);
        due.is("one against one", 3, x.best(0, 0));
        due.is("one against one", 22, x.best(0, 1));
        due.is("two against one", 13, x.best(1, 0));
        due.is("two against one", 43, x.best(1, 1));
        due.is("two against one", 13, x.best(4, 0));
        due.is("two against one", 10, x.best(4, 1));
        due.is("none is worth it", 0, x.best(5, 0));
        due.is("none is worth it", 0, x.best(5, 1));
        due.is("hour below", -5, x.best(-1, 0));
        due.is("hour above", -5, x.best(10, 0));
        due.is("hour ahead", -5, x.best(10, 2));
        due.is("what below", -7, x.best(0, -1));
        due.is("what above", -7, x.best(0, 2));
        WeighedGate y = Gates.under("may 1;fine 9;toll 11;");
        y.cart(0, 0, 5, 10, 0);
        y.cart(1, 0, 5, 10, 0);
        due.is("0 is not above 0", 0, y.best(0, 0));
        due.is("0 is not above 0", 0, y.best(0, 1));
        due.is("but it may be", 1, y.scales(3, 0, 0));
    }

    private void bestOfLikeOnes() {
        WeighedGate x = Gates.under("may many = 2;fine 0;toll 0;");
        for (int c = 0; c < 10; c++) {
            x.cart(c < 5 ? 1 : 0, 0, 5, 10, 0);
        }
        due.is("the least bits", 1 | 32, x.best(0, 0));
        due.is("the least bits", 20, x.best(0, 1));
        x.set(0, 0, 1);
        due.is("the least of those there", 2 | 32, x.best(0, 0));
        x.force(0);
        due.is("two against two", 2 | 4 | 32 | 64, x.best(0, 0));
        due.is("two against two", 40, x.best(0, 1));
    }
}
