/** Promises 1 to 6, sentence by sentence: a new object, the scale, stones, what is counted. */
final class ScaleSentences {
    private static final int NONE = -1;
    private static final int BAD = -2;
    private static final int STATE = -3;
    private static final int FULL = -4;

    private final Sentences s;

    ScaleSentences(Sentences s) {
        this.s = s;
    }

    void ask() {
        promise1();
        promise2();
        promise2Refused();
        promise3();
        promise4();
        promise5();
        promise6();
    }

    private void promise1() {
        WeighedGate x = new WeighedGate();
        s.of(1, "No STONES,");
        s.is("count(3)", 0, x.count(3));
        s.each("stoneTold", -5, x::stoneTold, 0, 1, 4);
        s.is("sell()", STATE, x.sell());
        s.is("make(1)", -1, x.make(1));
        s.of(1, "no CARTS.");
        s.is("count(4)", 0, x.count(4));
        s.each("cartTold(c, 0)", -5, c -> x.cartTold(c, 0), 0, 1, 9);
        s.is("scales(1, 0, 0)", -5, x.scales(1, 0, 0));
        s.is("dusk(10, 1)", 0, x.dusk(10, 1));
        s.is("lost(0, 1, 1, 0)", 0, x.lost(0, 1, 1, 0));
        s.is("image()", 0, x.image());
    }

    /** One inward cart and another one of these weights. */
    private static WeighedGate twoOf(int in, int out) {
        WeighedGate x = Gates.free();
        Gates.in(x, in, 1);
        Gates.out(x, out, 1);
        return x;
    }

    private void promise2() {
        s.of(2, "What 0 the ARM of what comes in,");
        WeighedGate x = twoOf(10, 30);
        s.is("scale(0, 3)", 1, x.scale(0, 3));
        s.row("count", x::count, 3, 1, 0);
        s.is("10 in on the arm of 3", 0, x.scales(3, 0, 3));
        s.is("scale(0, 2)", 3, x.scale(0, 2));
        s.is("10 in on the arm of 2", -1, x.scales(3, 0, 3));
        s.of(2, "1 of what goes out,");
        WeighedGate y = twoOf(30, 10);
        s.is("scale(1, 3)", 1, y.scale(1, 3));
        s.row("count", y::count, 1, 3, 0);
        s.is("10 out on the arm of 3", 0, y.scales(3, 0, 3));
        s.is("scale(1, 2)", 3, y.scale(1, 2));
        s.is("10 out on the arm of 2", -1, y.scales(3, 0, 3));
        s.of(2, "2 SLACK becomes v");
        WeighedGate z = twoOf(10, 19);
        s.is("scale(2, 8)", 0, z.scale(2, 8));
        s.row("count", z::count, 1, 1, 8);
        s.is("off by 9, slack 8", -1, z.scales(3, 0, 3));
        s.is("scale(2, 9)", 8, z.scale(2, 9));
        s.is("off by 9, slack 9", 9, z.scales(3, 0, 3));
        s.of(2, "what was.");
        for (int arm = 0; arm < 2; arm++) {
            WeighedGate w = new WeighedGate();
            int what = arm;
            s.row("arm " + what + ", to 3, 2, 1, 1 by turns", k -> w.scale(what, new int[] {3, 2, 1, 1}[k]), 1, 3, 2, 1);
        }
        WeighedGate w = new WeighedGate();
        s.row("slack, to 9, 0, 0, 5 by turns", k -> w.scale(2, new int[] {9, 0, 0, 5, 4}[k]), 0, 9, 0, 0, 5);
    }

    private void promise2Refused() {
        WeighedGate x = new WeighedGate();
        x.scale(0, 2);
        x.scale(1, 3);
        x.scale(2, 4);
        s.of(2, "NONE: what;");
        s.each("scale(what, 1)", NONE, what -> x.scale(what, 1), Gates.LEAST, -1, 3, 4, Gates.MOST);
        s.each("ahead of BAD, scale(what, 10)", NONE, what -> x.scale(what, 10), -1, 3);
        s.row("count stays", x::count, 2, 3, 4);
        s.of(2, "BAD: v.");
        for (int arm = 0; arm < 2; arm++) {
            int what = arm;
            s.each("scale(" + what + ", v)", BAD, v -> x.scale(what, v), Gates.LEAST, -1, 0, 4, 9, Gates.MOST);
        }
        s.each("scale(2, v)", BAD, v -> x.scale(2, v), Gates.LEAST, -1, 10, Gates.MOST);
        s.row("count stays", x::count, 2, 3, 4);
    }

    private void promise3() {
        WeighedGate x = new WeighedGate();
        s.of(3, "BAD;");
        s.each("stone", BAD, x::stone, Gates.LEAST, -1, 0, 100, Gates.MOST);
        s.is("none came", 0, x.count(3));
        s.of(3, "A STONE (its weight):");
        s.is("the lightest, stone(1)", 0, x.stone(1));
        s.is("the heaviest, stone(99)", 1, x.stone(99));
        s.row("stoneTold", x::stoneTold, 1, 99, -5);
        s.is("make(100)", 2, x.make(100));
        s.is("make(98)", 2, x.make(98));
        s.of(3, "its number.");
        s.is("the third", 2, x.stone(99));
        s.is("the fourth", 3, x.stone(50));
        s.is("the fifth", 4, x.stone(2));
        x.sell();
        s.is("the fifth again", 4, x.stone(7));
        s.of(3, "FULL.");
        s.each("a sixth one", FULL, x::stone, 1, 50, 99);
        s.is("five stay", 5, x.count(3));
        s.row("stoneTold stays", x::stoneTold, 1, 99, 99, 50, 7, -5);
        s.each("BAD is told ahead", BAD, x::stone, 0, 100);
        x.sell();
        s.is("one has room again", 4, x.stone(3));
    }

    private void promise4() {
        WeighedGate x = Gates.withStones(5, 7, 40);
        s.of(4, "The latest STONE is none any more:");
        x.sell();
        s.row("stoneTold", x::stoneTold, 5, 7, -5);
        s.is("count(3)", 2, x.count(3));
        s.is("make(40)", -1, x.make(40));
        s.is("make(12)", 2, x.make(12));
        s.of(4, "how many there are.");
        s.is("of two", 1, x.sell());
        s.is("of one", 0, x.sell());
        s.of(4, "STATE: there is none.");
        s.is("of none", STATE, x.sell());
        s.is("of none again", STATE, x.sell());
        s.is("none stay", 0, x.count(3));
        s.is("the next one is the first", 0, x.stone(9));
    }

    private void promise5() {
        WeighedGate x = Gates.withStones(12, 1, 99, 1, 50);
        s.of(5, "The weight of a STONE.");
        s.row("stoneTold", x::stoneTold, 12, 1, 99, 1, 50);
        s.of(5, "-5: no such STONE.");
        s.each("stoneTold", -5, x::stoneTold, Gates.LEAST, -1, 5, 6, Gates.MOST);
        x.sell();
        s.is("the one that was sold", -5, x.stoneTold(4));
        s.is("of none", -5, new WeighedGate().stoneTold(0));
    }

    private void promise6() {
        WeighedGate x = new WeighedGate();
        s.of(6, "0 .. 2 as of scale(),");
        s.row("count at first", x::count, 1, 1, 0, 0, 0, 1, 0, 0);
        x.scale(0, 2);
        x.scale(1, 3);
        x.scale(2, 9);
        s.row("count", x::count, 2, 3, 9, 0, 0, 1, 0, 0);
        s.of(6, "3 STONES,");
        for (int k = 1; k <= 6; k++) {
            x.stone(k);
            s.is("stones after " + k, Math.min(k, 5), x.count(3));
        }
        s.of(6, "4 CARTS,");
        for (int k = 1; k <= 11; k++) {
            Gates.in(x, k, k);
            s.is("carts after " + k, Math.min(k, 10), x.count(4));
        }
        s.of(6, "5 TEXTS,");
        for (int k = 1; k <= 6; k++) {
            Due.read(x, Gates.FREE);
            s.is("texts after " + k + " more", Math.min(k + 1, 6), x.count(5));
        }
        s.of(6, "6 THE LAW,");
        x.force(5);
        s.is("the last", 5, x.count(6));
        x.force(0);
        s.is("the first", 0, x.count(6));
        s.of(6, "7 bytes of THE TAPE.");
        WeighedGate y = new WeighedGate();
        s.is("of none", 0, y.count(7));
        Due.write(y, " ".repeat(160));
        s.is("of all", 160, y.count(7));
        y.text();
        s.is("of none again", 0, y.count(7));
        s.of(6, "BAD.");
        s.each("count", BAD, x::count, Gates.LEAST, -1, 8, Gates.MOST);
    }
}
