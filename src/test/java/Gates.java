/** Objects in states that many tests begin with, and all that can be asked of one. */
final class Gates {
    static final String FREE = "may 1;fine 0;toll 0;";
    static final int LEAST = Integer.MIN_VALUE;
    static final int MOST = Integer.MAX_VALUE;

    private Gates() { }

    static WeighedGate under(String law) {
        WeighedGate x = new WeighedGate();
        Due.read(x, law);
        x.force(1);
        return x;
    }

    static WeighedGate free() {
        return under(FREE);
    }

    static WeighedGate withStones(int... weights) {
        WeighedGate x = new WeighedGate();
        for (int w : weights) {
            x.stone(w);
        }
        return x;
    }

    static int in(WeighedGate x, int weight, int value) {
        return x.cart(1, 0, weight, value, 0);
    }

    static int out(WeighedGate x, int weight, int value) {
        return x.cart(0, 0, weight, value, 0);
    }

    /** What a state is, as one text; some hundred calls, none of which changes it. */
    static String told(WeighedGate x) {
        StringBuilder all = new StringBuilder();
        for (int what = 0; what < 8; what++) {
            all.append(x.count(what)).append(' ').append(x.stoneTold(what)).append(' ').append(x.make(7 * what)).append(' ');
        }
        for (int c = 0; c < 10; c++) {
            all.append(x.cartTold(c, 0)).append(' ').append(x.cartTold(c, 1)).append(' ').append(x.cartTold(c, 2)).append(' ');
            all.append(x.cartTold(c, 3)).append(' ').append(x.cartTold(c, 4)).append(' ').append(x.goes(c, 1)).append(' ');
        }
        for (int part = 0; part < 3; part++) {
            all.append(x.asks(part, 3004, 56, 78)).append(' ').append(x.dusk(10, part)).append(' ');
        }
        for (int s = 0; s < 4; s++) {
            all.append(x.judge(s)).append(' ').append(x.laws(s)).append(' ');
        }
        return all.toString();
    }
}
