/** Promises 23 to 27: the day, who goes when, an hour to hold, what a cart is worth, when to bring it. */
final class DayTest {
    private static final String ONE_EACH = "may many = 2;fine 0;toll 0;";
    private final Due due = new Due();

    public static void main(String[] args) {
        DayTest test = new DayTest();
        test.dusk();
        test.duskOfNone();
        test.moreInThanOut();
        test.waits();
        test.goes();
        test.hold();
        test.holdOfLikeOnes();
        test.gain();
        test.bring();
        test.refusals();
        test.due.end();
    }

    private void told(WeighedGate x, int n, int... answers) {
        for (int what = 0; what < 5; what++) {
            due.is("dusk(" + n + ", " + what + ")", answers[what], x.dusk(n, what));
        }
    }

    /** Two inward ones and two others, all alike but for when they come. */
    private static WeighedGate fourAlike() {
        WeighedGate x = Gates.under(ONE_EACH);
        x.cart(1, 0, 5, 10, 0);
        x.cart(1, 0, 5, 10, 0);
        x.cart(0, 0, 5, 1, 0);
        x.cart(0, 0, 5, 1, 0);
        return x;
    }

    private void dusk() {
        WeighedGate x = fourAlike();
        told(x, 0, 0, 0, 0, 0, 0);
        told(x, 1, 11, 5, 0, 0, 1);
        told(x, 2, 22, 15, 0, 1, 0);
        told(x, 10, 22, 15, 0, 1, 0);
        x.set(3, 0, 6);
        told(x, 6, 11, 5, 0, 0, 6);
        told(x, 7, 22, 15, 0, 6, 0);
        x.set(0, 0, 9);
        told(x, 9, 11, 6, 0, 0, 3);
    }

    private void duskOfNone() {
        WeighedGate x = new WeighedGate();
        told(x, 10, 0, 0, 0, 0, 0);
        x.cart(1, 0, 5, 10, 0);
        x.set(0, 0, 4);
        told(x, 0, 0, 0, 0, 0, 0);
        told(x, 3, 0, 0, 0, 0, 0);
        told(x, 4, 0, 0, 0, 0, 0);
        told(x, 9, 0, 0, 0, 0, 5);
        told(x, 10, 0, 0, 0, 0, 6);
    }

    private void moreInThanOut() {
        WeighedGate x = Gates.under(ONE_EACH);
        x.scale(2, 9);
        x.cart(1, 0, 5, 10, 0);
        x.cart(0, 2, 5, 10, 3);
        x.set(0, 0, 1);
        told(x, 10, 20, 3, -3, 1, 0);
        x.cart(1, 5, 20, 10, 2);
        x.cart(0, 0, 7, 10, 0);
        x.set(3, 0, 3);
        told(x, 2, 20, 3, -3, 1, 2);
        told(x, 4, 40, 15, -3 + 7, 3, 0);
        x.scale(0, 2);
        x.scale(1, 3);
        told(x, 3, 20, 6, 16 - 11, 2, 2);
    }

    private void waits() {
        WeighedGate x = fourAlike();
        x.set(0, 0, 2);
        x.set(1, 0, 5);
        x.set(2, 0, 3);
        x.set(3, 0, 0);
        told(x, 2, 0, 0, 0, 0, 2);
        WeighedGate y = fourAlike();
        y.set(2, 0, 3);
        y.set(3, 0, 7);
        y.set(1, 0, 6);
        told(y, 4, 11, 5, 0, 3, 0);
        told(y, 9, 22, 15, 0, 3, 0);
        told(x, 3, 11, 1 | 8, 0, 2, 0);
        told(x, 5, 11, 1 | 8, 0, 2, 2);
        told(x, 6, 22, 15, 0, 2, 0);
    }

    private void goes() {
        WeighedGate x = fourAlike();
        x.cart(0, 0, 7, 1, 0);
        x.set(3, 0, 6);
        int[] hours = {0, 6, 0, 6, -1};
        for (int c = 0; c < 5; c++) {
            due.is("cart " + c, hours[c], x.goes(c, 0));
        }
        for (int h = 0; h < 10; h++) {
            due.is("hour " + h, h == 0 ? 5 : h == 6 ? 10 : 0, x.goes(h, 1));
        }
        x.set(3, 0, 9);
        due.is("the last hour", 9, x.goes(3, 0));
        due.is("the last hour", 10, x.goes(9, 1));
        due.is("what below", WeighedGate.BAD, x.goes(0, -1));
        due.is("what above", WeighedGate.BAD, x.goes(0, 2));
        due.is("what ahead of the cart", WeighedGate.BAD, x.goes(99, 2));
        due.is("no such cart", -5, x.goes(5, 0));
        due.is("no such cart", -5, x.goes(-1, 0));
        due.is("no such hour", -5, x.goes(10, 1));
        due.is("no such hour", -5, x.goes(-1, 1));
        due.is("an hour that is no cart's number", 0, x.goes(5, 1));
    }

    /** The first one goes against a poor other one, though a rich one comes later. */
    private static WeighedGate greedy() {
        WeighedGate x = Gates.free();
        x.cart(1, 0, 5, 10, 0);
        x.cart(0, 0, 5, 0, 0);
        x.cart(0, 0, 5, 40, 0);
        x.set(2, 0, 1);
        return x;
    }

    private void hold() {
        WeighedGate x = greedy();
        due.is("earned", 10, x.dusk(10, 0));
        due.is("held", 0, x.hold(0));
        due.is("earned then", 50, x.hold(1));
        due.is("nothing is held by asking", 10, x.dusk(10, 0));
        x.set(2, 0, 2);
        due.is("one hour does not help", -1, x.hold(0));
        due.is("what is earned", 10, x.hold(1));
        x.set(0, 0, 1);
        x.set(1, 0, 1);
        due.is("the second hour", 1, x.hold(0));
        due.is("earned then", 50, x.hold(1));
        due.is("what below", WeighedGate.BAD, x.hold(-1));
        due.is("what above", WeighedGate.BAD, x.hold(2));
        due.is("of none", -1, new WeighedGate().hold(0));
        due.is("of none", 0, new WeighedGate().hold(1));
    }

    private void holdOfLikeOnes() {
        WeighedGate x = Gates.under("may hour = 2 or hour = 3 or hour = 9;fine 0;toll 0;");
        x.cart(1, 0, 5, 10, 0);
        x.cart(0, 0, 5, 10, 0);
        due.is("none is better", -1, x.hold(0));
        due.is("none is better", 20, x.hold(1));
        WeighedGate y = Gates.under("may many = 2;fine 0;toll 0;");
        y.cart(1, 0, 5, 1, 0);
        y.cart(1, 0, 5, 10, 0);
        y.cart(0, 0, 5, 10, 0);
        y.cart(0, 0, 6, 90, 0);
        y.cart(1, 2, 5, 1, 1);
        y.set(3, 0, 1);
        y.set(4, 0, 0);
        due.is("earned", 20 + 91, y.dusk(10, 0));
        due.is("as much as can be", -1, y.hold(0));
        WeighedGate z = Gates.free();
        z.cart(1, 0, 5, 10, 0);
        z.cart(0, 0, 5, 0, 0);
        z.cart(0, 0, 5, 40, 0);
        z.cart(1, 0, 7, 10, 0);
        z.cart(0, 0, 7, 0, 0);
        z.cart(0, 0, 7, 40, 0);
        z.set(2, 0, 1);
        z.set(3, 0, 4);
        z.set(4, 0, 4);
        z.set(5, 0, 5);
        due.is("earned", 20, z.dusk(10, 0));
        due.is("the first of like ones", 0, z.hold(0));
        due.is("earned then", 60, z.hold(1));
    }

    private void gain() {
        WeighedGate x = greedy();
        due.is("10 by the first", 10, x.gain(0));
        due.is("the poor one costs 40", -40, x.gain(1));
        due.is("the rich one is left", 0, x.gain(2));
        due.is("no such cart", -100000, x.gain(3));
        due.is("no such cart", -100000, x.gain(-1));
        due.is("no such cart", -100000, x.gain(32));
        due.is("all come", 10, x.dusk(10, 0));
        due.is("three carts", 3, x.count(4));
    }

    private void bring() {
        WeighedGate x = greedy();
        due.is("at 0 the rich one goes", 0, x.bring(2, 0));
        due.is("at 0 the rich one goes", 50, x.bring(2, 1));
        due.is("the last of like ones", 9, x.bring(1, 0));
        due.is("the poor one is not in the way", 50, x.bring(1, 1));
        due.is("the first waits for the rich one", 9, x.bring(0, 0));
        due.is("the first waits for the rich one", 50, x.bring(0, 1));
        due.is("when it comes stays", 1, x.cartTold(2, 0));
        due.is("what is earned stays", 10, x.dusk(10, 0));
        WeighedGate y = new WeighedGate();
        y.cart(1, 0, 5, 10, 0);
        y.cart(0, 0, 5, 10, 0);
        y.set(0, 0, 4);
        due.is("by the toll", 4, y.bring(1, 0));
        due.is("16 at hour 4", 16, y.bring(1, 1));
        due.is("by the toll", 0, y.bring(0, 0));
        due.is("20 at hour 0", 20, y.bring(0, 1));
        WeighedGate z = Gates.free();
        z.cart(1, 0, 5, 10, 0);
        due.is("all alike", 9, z.bring(0, 0));
        due.is("all alike", 0, z.bring(0, 1));
        z.cart(0, 2, 2, 10, 3);
        due.is("as it is", 20, z.dusk(10, 0));
        due.is("one hour ahead of the other", 8, z.bring(1, 0));
        due.is("the last at which it is in time", 1, z.bring(0, 0));
    }

    private void refusals() {
        WeighedGate x = fourAlike();
        due.is("n below", -5, x.dusk(-1, 0));
        due.is("n above", -5, x.dusk(11, 0));
        due.is("n ahead", -5, x.dusk(11, 5));
        due.is("what below", -7, x.dusk(0, -1));
        due.is("what above", -7, x.dusk(10, 5));
        due.is("no such cart", -5, x.bring(-1, 0));
        due.is("no such cart", -5, x.bring(4, 0));
        due.is("the cart ahead", -5, x.bring(4, 2));
        due.is("what below", -7, x.bring(0, -1));
        due.is("what above", -7, x.bring(0, 2));
    }
}
