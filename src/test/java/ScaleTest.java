/** Promises 1 to 6: a new object, the scale, stones, what is counted. */
final class ScaleTest {
    private final Due due = new Due();

    public static void main(String[] args) {
        ScaleTest test = new ScaleTest();
        test.newObject();
        test.scale();
        test.stone();
        test.sell();
        test.stoneTold();
        test.count();
        test.due.end();
    }

    private void newObject() {
        WeighedGate x = new WeighedGate();
        int[] counts = {1, 1, 0, 0, 0, 1, 0, 0};
        for (int what = 0; what < 8; what++) {
            due.is("new count " + what, counts[what], x.count(what));
        }
        due.is("new stoneTold", -5, x.stoneTold(0));
        due.is("new cartTold", -5, x.cartTold(0, 0));
        for (int s = 0; s < 4; s++) {
            due.is("new cell of " + s, -11, x.cell(s, 0, 0));
        }
        due.is("new back", WeighedGate.STATE, x.back());
        due.is("new sell", WeighedGate.STATE, x.sell());
        due.is("first law: may", 1, x.asks(0, 0, 0, 0));
        due.is("first law: fine", 6, x.asks(1, 0, 37, 0));
        due.is("first law: toll", 7, x.asks(2, 0, 37, 0));
        due.is("constants", -1, WeighedGate.NONE);
        due.is("constants", -2, WeighedGate.BAD);
        due.is("constants", -3, WeighedGate.STATE);
        due.is("constants", -4, WeighedGate.FULL);
        due.is("constants", -4611686018427387904L, WeighedGate.NO);
    }

    private void scale() {
        WeighedGate x = new WeighedGate();
        due.is("arm in was", 1, x.scale(0, 3));
        due.is("arm in was", 3, x.scale(0, 2));
        due.is("arm out was", 1, x.scale(1, 2));
        due.is("arm out was", 2, x.scale(1, 1));
        due.is("arm out was", 1, x.scale(1, 3));
        due.is("arm in was", 2, x.scale(0, 1));
        due.is("arm in was", 1, x.scale(0, 2));
        due.is("slack was", 0, x.scale(2, 9));
        due.is("slack was", 9, x.scale(2, 0));
        due.is("slack was", 0, x.scale(2, 4));
        due.is("no such", WeighedGate.NONE, x.scale(-1, 1));
        due.is("no such", WeighedGate.NONE, x.scale(3, 1));
        due.is("no such ahead of bad", WeighedGate.NONE, x.scale(3, 77));
        due.is("arm of 0", WeighedGate.BAD, x.scale(0, 0));
        due.is("arm of 4", WeighedGate.BAD, x.scale(0, 4));
        due.is("arm of 0", WeighedGate.BAD, x.scale(1, 0));
        due.is("arm of 4", WeighedGate.BAD, x.scale(1, 4));
        due.is("slack below 0", WeighedGate.BAD, x.scale(2, -1));
        due.is("slack of 10", WeighedGate.BAD, x.scale(2, 10));
        due.is("in kept", 2, x.count(0));
        due.is("out kept", 3, x.count(1));
        due.is("slack kept", 4, x.count(2));
    }

    private void stone() {
        WeighedGate x = new WeighedGate();
        due.is("too light", WeighedGate.BAD, x.stone(0));
        due.is("below 0", WeighedGate.BAD, x.stone(-1));
        due.is("too heavy", WeighedGate.BAD, x.stone(100));
        due.is("none came", 0, x.count(3));
        for (int k = 0; k < 5; k++) {
            due.is("its number", k, x.stone(k == 0 ? 1 : 99));
        }
        due.is("full", WeighedGate.FULL, x.stone(1));
        due.is("bad ahead of full", WeighedGate.BAD, x.stone(0));
        due.is("five", 5, x.count(3));
        due.is("heavy made", 1, x.make(99));
        due.is("all made", 5, x.make(397));
    }

    private void sell() {
        WeighedGate x = new WeighedGate();
        due.is("none to sell", WeighedGate.STATE, x.sell());
        x.stone(5);
        x.stone(7);
        due.is("made by the latest", 1, x.make(7));
        due.is("one is left", 1, x.sell());
        due.is("the latest is none", -5, x.stoneTold(1));
        due.is("the first stays", 5, x.stoneTold(0));
        due.is("not made any more", -1, x.make(7));
        due.is("still made", 1, x.make(5));
        due.is("the next one's number", 1, x.stone(8));
        due.is("made", 2, x.make(3));
        due.is("sold", 1, x.sell());
        due.is("sold", 0, x.sell());
        due.is("none to sell", WeighedGate.STATE, x.sell());
    }

    private void stoneTold() {
        WeighedGate x = new WeighedGate();
        x.stone(12);
        x.stone(1);
        due.is("first", 12, x.stoneTold(0));
        due.is("second", 1, x.stoneTold(1));
        due.is("none", -5, x.stoneTold(2));
        due.is("none", -5, x.stoneTold(-1));
        due.is("none", -5, x.stoneTold(5));
    }

    private void count() {
        WeighedGate x = new WeighedGate();
        x.scale(0, 2);
        x.scale(1, 3);
        x.scale(2, 8);
        x.stone(4);
        x.cart(0, 0, 1, 1, 1);
        x.cart(1, 0, 1, 1, 1);
        Due.read(x, "may 1;fine 1;toll 1;");
        Due.read(x, "may 0;fine 1;toll 1;");
        x.force(1);
        x.feed(4, 1, 2, 3, 4, 5);
        int[] counts = {2, 3, 8, 1, 2, 3, 1, 4};
        for (int what = 0; what < 8; what++) {
            due.is("count " + what, counts[what], x.count(what));
        }
        due.is("count below", WeighedGate.BAD, x.count(-1));
        due.is("count above", WeighedGate.BAD, x.count(8));
    }
}
