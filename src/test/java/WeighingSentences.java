/** Promises 19 to 22 and the terms of a weighing, sentence by sentence. */
final class WeighingSentences {
    private final Sentences s;

    WeighingSentences(Sentences s) {
        this.s = s;
    }

    void ask() {
        promise19();
        promise19Refused();
        promise20();
        promise20Refused();
        promise21();
        promise21Refused();
        promise22();
        promise22Refused();
        weighed();
        off();
        offEdges();
        mayBe();
        mayBeByTheLaw();
        brings();
    }

    private void told(WeighedGate x, int set, int h, long... wants) {
        s.row("scales(" + set + ", " + h + ", what)", what -> x.scales(set, h, what), wants);
    }

    /** An inward cart of 10 against one of 15, on a slack of 3, a stone of 3, under the first law. */
    private static WeighedGate tenAndFifteen() {
        WeighedGate x = Gates.withStones(3);
        x.scale(2, 3);
        Gates.in(x, 10, 30);
        Gates.out(x, 15, 5);
        return x;
    }

    private void promise19() {
        s.of(19, "Of a WEIGHING of some CARTS (bits) what 0 whether it MAY BE (1, 0),");
        WeighedGate x = tenAndFifteen();
        s.is("both", 1, x.scales(3, 0, 0));
        s.is("the first", 0, x.scales(1, 0, 0));
        s.is("the second", 0, x.scales(2, 0, 0));
        s.is("none", 0, x.scales(0, 0, 0));
        s.of(19, "1 what is in, 2 what is out (without ARMS),");
        s.row("in of none, one, the other, both", set -> x.scales(set, 0, 1), 0, 10, 0, 10);
        s.row("out of none, one, the other, both", set -> x.scales(set, 0, 2), 0, 0, 15, 15);
        x.scale(0, 3);
        x.scale(1, 2);
        s.is("in on an arm of 3", 10, x.scales(3, 0, 1));
        s.is("out on an arm of 2", 15, x.scales(3, 0, 2));
        s.of(19, "3 OFF (-1: by more than SLACK),");
        s.is("no more than 0", 0, x.scales(3, 0, 3));
        x.scale(0, 1);
        x.scale(1, 1);
        s.is("5 less 2 is 3", 2, x.scales(3, 0, 3));
        x.scale(2, 2);
        s.is("2 of 2", 2, x.scales(3, 0, 3));
        x.scale(2, 1);
        s.is("2 of 1", -1, x.scales(3, 0, 3));
        s.of(19, "4 how many STONES (0, if so),");
        s.is("by more than slack", 0, x.scales(3, 0, 4));
        x.scale(2, 2);
        s.is("one", 1, x.scales(3, 0, 4));
        x.stone(2);
        s.is("two", 2, x.scales(3, 0, 4));
        s.of(19, "5 what it BRINGS (0, if it may not be).");
        s.is("both", 35, x.scales(3, 0, 5));
        s.is("both at 9", 26, x.scales(3, 9, 5));
        s.is("the first", 0, x.scales(1, 0, 5));
        x.set(0, 0, 1);
        s.is("one has not come", 0, x.scales(3, 0, 5));
    }

    private void promise19Refused() {
        WeighedGate x = tenAndFifteen();
        s.of(19, "-5: no such CARTS;");
        s.each("scales(set, 0, 0)", -5, set -> x.scales(set, 0, 0), Gates.LEAST, -1, 4, 5, 7, 1024, Gates.MOST);
        s.each("ahead of -7", -5, set -> x.scales(set, 10, 6), -1, 4);
        s.of(19, "-7: HOUR,");
        s.each("scales(3, h, 0)", -7, h -> x.scales(3, h, 0), Gates.LEAST, -1, 10, Gates.MOST);
        s.each("of none", -7, h -> x.scales(0, h, 0), -1, 10);
        s.of(19, "HOUR, what.");
        s.each("scales(3, 0, what)", -7, what -> x.scales(3, 0, what), Gates.LEAST, -1, 6, Gates.MOST);
        s.each("of none", -7, what -> x.scales(0, 0, what), -1, 6);
        s.of(Sentences.TERMS, "scales() answers 1 to 4 also for CARTS that may not be weighed;");
        told(x, 1, 0, 0, 10, 0, -1, 0, 0);
        x.stone(8);
        told(x, 1, 0, 0, 10, 0, 1, 2, 0);
        x.set(1, 0, 9);
        told(x, 3, 0, 0, 10, 15, 0, 2, 0);
        s.of(Sentences.TERMS, "of none all are 0.");
        told(x, 0, 0, 0, 0, 0, 0, 0, 0);
        told(x, 0, 9, 0, 0, 0, 0, 0, 0);
        told(new WeighedGate(), 0, 0, 0, 0, 0, 0, 0, 0);
    }

    // ---- promises 20, 21

    private void promise20() {
        s.of(20, "Of WEIGHINGS of one CART in each pan that MAY BE at an HOUR,");
        WeighedGate x = Gates.free();
        Gates.in(x, 5, 10);
        Gates.in(x, 5, 20);
        Gates.out(x, 10, 30);
        s.is("two against one are none", 0, x.pairs(0, 0));
        s.is("two against one are none", 0, x.pairs(0, 1));
        Gates.out(x, 5, 1);
        x.set(3, 0, 4);
        s.row("by hours", h -> x.pairs(h, 0), 0, 0, 0, 0, 1, 1, 1, 1, 1, 1);
        s.of(20, "no CART in two of them:");
        s.is("one against the two", 1, x.pairs(9, 0));
        s.is("by the richer one", 21, x.pairs(9, 1));
        s.of(20, "what 0 the most,");
        Gates.out(x, 5, 2);
        s.is("two", 2, x.pairs(9, 0));
        WeighedGate y = Gates.free();
        for (int c = 0; c < 10; c++) {
            y.cart(c % 2, 0, 5, 9, 0);
        }
        s.is("five", 5, y.pairs(0, 0));
        s.is("of no carts", 0, new WeighedGate().pairs(0, 0));
        WeighedGate z = Gates.under("may 1;fine 30;toll 0;");
        Gates.in(z, 5, 10);
        Gates.out(z, 5, 10);
        s.is("also one that costs", 1, z.pairs(0, 0));
        s.of(20, "1 the most that any such BRING together (0 at least).");
        s.is("one that costs", 0, z.pairs(0, 1));
        s.is("five", 90, y.pairs(0, 1));
        s.is("two", 33, x.pairs(9, 1));
        s.is("of no carts", 0, new WeighedGate().pairs(0, 1));
        Gates.in(z, 7, 40);
        Gates.out(z, 7, 40);
        s.is("the other alone", 50, z.pairs(0, 1));
        WeighedGate fewer = Gates.under("may 1;fine in;toll 0;");
        fewer.scale(2, 1);
        Gates.in(fewer, 8, 9);
        Gates.in(fewer, 7, 0);
        Gates.out(fewer, 7, 30);
        Gates.out(fewer, 9, 0);
        s.is("two may be", 2, fewer.pairs(0, 0));
        s.is("the one brings more than the two", 31, fewer.pairs(0, 1));
    }

    private void promise20Refused() {
        WeighedGate x = tenAndFifteen();
        s.of(20, "-5: no such HOUR;");
        s.each("pairs(h, 0)", -5, h -> x.pairs(h, 0), Gates.LEAST, -1, 10, Gates.MOST);
        s.each("ahead of -7", -5, h -> x.pairs(h, 2), -1, 10);
        s.of(20, "-7: what.");
        s.each("pairs(0, what)", -7, what -> x.pairs(0, what), Gates.LEAST, -1, 2, Gates.MOST);
        s.is("the last hour", 1, x.pairs(9, 0));
    }

    private void promise21() {
        s.of(21, "The CART with which another one is weighed by those that BRING most together");
        WeighedGate x = Gates.free();
        x.scale(2, 2);
        Gates.in(x, 5, 10);
        Gates.in(x, 7, 20);
        Gates.out(x, 5, 30);
        Gates.out(x, 3, 1);
        s.row("against(0, c)", c -> x.against(0, c), 3, 2, 1, 0);
        s.of(Sentences.TERMS, "against() tells the other one of either.");
        for (int c = 0; c < 4; c++) {
            s.is("the other one's other one", c, x.against(0, x.against(0, c)));
        }
        s.of(21, "(-1: it is not),");
        x.set(3, 0, 5);
        s.row("one has not come", c -> x.against(4, c), -1, 2, 1, -1);
        WeighedGate costs = Gates.under("may 1;fine 21;toll 0;");
        Gates.in(costs, 5, 10);
        Gates.out(costs, 5, 10);
        s.row("it costs", c -> costs.against(0, c), -1, -1);
        s.of(21, "of like ones the first by rows: for each CART INWARD, by numbers, its other one,");
        WeighedGate y = Gates.free();
        Gates.out(y, 5, 1);
        Gates.in(y, 5, 10);
        Gates.out(y, 5, 1);
        Gates.in(y, 5, 10);
        s.row("the least for the first", c -> y.against(0, c), 1, 0, 3, 2);
        WeighedGate ten = Gates.free();
        for (int c = 0; c < 10; c++) {
            ten.cart(c < 5 ? 1 : 0, 0, 5, 10, 0);
        }
        s.row("each of five with the least that is left", c -> ten.against(0, c), 5, 6, 7, 8, 9, 0, 1, 2, 3, 4);
        WeighedGate three = Gates.free();
        Gates.in(three, 5, 10);
        Gates.out(three, 5, 1);
        Gates.out(three, 5, 1);
        s.row("the lesser of two", c -> three.against(0, c), 1, 0, -1);
        WeighedGate later = Gates.free();
        later.scale(2, 1);
        Gates.in(later, 6, 10);
        Gates.in(later, 5, 20);
        Gates.out(later, 5, 0);
        Gates.out(later, 7, 0);
        s.row("the first leaves the least to the one that needs it", c -> later.against(0, c), 3, 2, 1, 0);
        s.of(21, "none (-1) ahead of 0.");
        WeighedGate z = Gates.free();
        Gates.out(z, 5, 1);
        Gates.in(z, 5, 10);
        Gates.in(z, 5, 10);
        s.row("the first has none, the second 0", c -> z.against(0, c), 2, -1, 0);
        WeighedGate nothing = Gates.free();
        Gates.out(nothing, 5, 0);
        Gates.in(nothing, 5, 0);
        s.row("it brings 0", c -> nothing.against(0, c), -1, -1);
    }

    private void promise21Refused() {
        WeighedGate x = tenAndFifteen();
        s.of(21, "-5: no such HOUR, CART.");
        s.each("hour", -5, h -> x.against(h, 0), Gates.LEAST, -1, 10, Gates.MOST);
        s.each("cart", -5, c -> x.against(0, c), Gates.LEAST, -1, 2, 10, Gates.MOST);
        s.is("of no carts", -5, new WeighedGate().against(0, 0));
        s.is("the last hour", 1, x.against(9, 0));
    }

    // ---- promise 22

    private void promise22() {
        s.of(22, "The WEIGHING that MAY BE at an HOUR and BRINGS most,");
        WeighedGate x = Gates.under("may 1;fine 9;toll hour*11;");
        Gates.out(x, 5, 10);
        Gates.in(x, 5, 21);
        Gates.in(x, 8, 40);
        Gates.out(x, 3, 13);
        x.set(3, 0, 1);
        s.is("one against one", 3, x.best(0, 0));
        s.is("two against one", 13, x.best(1, 0));
        s.of(22, "if that is above 0,");
        s.is("10 at 4", 13, x.best(4, 0));
        s.is("-1 at 5", 0, x.best(5, 0));
        WeighedGate y = Gates.under("may 1;fine 9;toll 10;");
        Gates.out(y, 5, 10);
        Gates.in(y, 5, 9);
        s.is("0", 0, y.best(0, 0));
        Gates.in(y, 5, 10);
        s.is("1", 5, y.best(0, 0));
        s.of(22, "of like ones the least (what 0, bits; 0: none),");
        WeighedGate z = Gates.under("may many = 2;fine 0;toll 0;");
        for (int c = 0; c < 10; c++) {
            z.cart(c < 5 ? 1 : 0, 0, 5, 10, 0);
        }
        s.is("the least bits of 25", 1 | 32, z.best(0, 0));
        z.set(0, 0, 1);
        s.is("the least of those there", 2 | 32, z.best(0, 0));
        for (int c = 1; c < 9; c++) {
            z.set(c, 0, 1);
        }
        s.is("none", 0, z.best(0, 0));
        s.of(22, "what it BRINGS (1; 0).");
        s.is("one against one", 22, x.best(0, 1));
        s.is("two against one", 43, x.best(1, 1));
        s.is("-1 is none", 0, x.best(5, 1));
        s.is("1", 1, y.best(0, 1));
        s.is("of no carts", 0, new WeighedGate().best(0, 1));
    }

    private void promise22Refused() {
        WeighedGate x = tenAndFifteen();
        s.of(22, "-5: no such HOUR;");
        s.each("best(h, 0)", -5, h -> x.best(h, 0), Gates.LEAST, -1, 10, Gates.MOST);
        s.each("ahead of -7", -5, h -> x.best(h, 2), -1, 10);
        s.of(22, "-7: what.");
        s.each("best(0, what)", -7, what -> x.best(0, what), Gates.LEAST, -1, 2, Gates.MOST);
        s.is("the last hour", 3, x.best(9, 0));
    }

    // ---- the terms

    private void weighed() {
        s.of(Sentences.TERMS, "A WEIGHING of some CARTS at an HOUR: those INWARD in the one pan, "
            + "the others in the other one, as they WEIGH then.");
        WeighedGate x = Gates.free();
        x.cart(1, 2, 10, 5, 3);
        x.cart(0, 5, 10, 5, 3);
        x.cart(0, 4, 10, 5, 3);
        s.row("in by hours", h -> x.scales(7, h, 1), 10, 13, 16, 19, 22, 25, 28, 31, 34, 37);
        s.row("out by hours", h -> x.scales(7, h, 2), 20, 17, 14, 11, 11, 11, 11, 11, 11, 11);
        x.set(2, 1, 1);
        s.is("in with the one turned", 20, x.scales(7, 0, 1));
        s.is("out without it", 10, x.scales(7, 0, 2));
        s.of(Sentences.TERMS, "d: how far what is in, times its ARM, and what is out, times its ARM, are from each other.");
        WeighedGate y = Gates.free();
        y.scale(2, 9);
        Gates.in(y, 10, 5);
        Gates.out(y, 14, 5);
        s.is("14 and 10", 4, y.scales(3, 0, 3));
        y.scale(0, 2);
        s.is("20 and 14", 6, y.scales(3, 0, 3));
        y.scale(1, 2);
        s.is("20 and 28", 8, y.scales(3, 0, 3));
        y.scale(0, 3);
        s.is("30 and 28", 2, y.scales(3, 0, 3));
    }

    /** How far off and by how many stones a difference of d is weighed. */
    private void offOf(int d, int slack, int off, int stones, int... weights) {
        WeighedGate x = Gates.withStones(weights);
        x.scale(2, slack);
        Gates.in(x, 10, 50);
        Gates.out(x, 10 + d, 50);
        s.is("off of " + d, off, x.scales(3, 0, 3));
        s.is("stones of " + d, stones, x.scales(3, 0, 4));
        WeighedGate y = Gates.withStones(weights);
        y.scale(2, slack);
        Gates.in(y, 10 + d, 50);
        Gates.out(y, 10, 50);
        s.is("off of " + d + " the other way", off, y.scales(3, 0, 3));
    }

    private void off() {
        s.of(Sentences.TERMS, "OFF: the least off (0 .. SLACK) such that d less off, or d and off, is MADE");
        offOf(7, 9, 0, 1, 7);
        offOf(7, 9, 1, 1, 6);
        offOf(7, 9, 1, 1, 8);
        offOf(7, 9, 2, 1, 9, 4);
        offOf(7, 2, 2, 1, 5);
        offOf(7, 1, -1, 0, 5);
        offOf(7, 2, 2, 1, 9);
        offOf(7, 1, -1, 0, 9);
        offOf(9, 9, 9, 0);
        offOf(9, 8, -1, 0);
        s.of(Sentences.TERMS, "by the fewest STONES of these; none, if none is.");
        offOf(7, 1, 1, 1, 6, 3, 11);
        offOf(7, 1, 1, 1, 8, 5, 11);
        offOf(7, 1, 1, 2, 3, 9);
        offOf(7, 1, 1, 2, 3, 5);
        offOf(7, 0, -1, 0, 6, 8, 20);
        s.of(Sentences.TERMS, "OFF: of d less off and d and off the fewer STONES;");
        offOf(7, 1, 1, 1, 2, 6);
        offOf(3, 1, 1, 1, 2, 6);
        offOf(5, 1, 1, 1, 2, 6);
        offOf(9, 1, 1, 2, 2, 6);
    }

    private void offEdges() {
        s.of(Sentences.TERMS, "(neither below 0, nor above 999),");
        offOf(1, 9, 1, 0, 90);
        offOf(2, 1, -1, 0, 90);
        offOf(8, 9, 8, 0, 90);
        s.of(Sentences.TERMS, "d itself may be above 999.");
        WeighedGate x = Gates.withStones(99, 99, 99, 99, 99);
        x.cart(1, 2, 99, 9, 9);
        x.cart(1, 2, 99, 9, 9);
        x.cart(0, 5, 1, 9, 9);
        x.scale(0, 3);
        x.scale(2, 9);
        told(x, 7, 9, 0, 360, 1, -1, 0, 0);
        told(x, 3, 9, 0, 360, 0, -1, 0, 0);
        s.is("none is best", 0, x.best(9, 0));
        s.is("at hour 0 the first is off by 1", 16, x.dusk(10, 0));
    }

    /** Whether so many inward carts and so many others, all of weight 6 together, may be weighed. */
    private void pans(int want, int inward, int others) {
        WeighedGate x = Gates.free();
        for (int c = 0; c < inward; c++) {
            Gates.in(x, 6 / inward, 10);
        }
        for (int c = 0; c < others; c++) {
            Gates.out(x, 6 / others, 10);
        }
        x.stone(6);
        int all = (1 << inward + others) - 1;
        s.is(inward + " against " + others, want, x.scales(all, 0, 0));
    }

    private void mayBe() {
        s.of(Sentences.TERMS, "It MAY BE, if there are one or two CARTS in each pan,");
        for (int inward = 0; inward <= 3; inward++) {
            for (int others = 0; others <= 3; others++) {
                boolean fits = inward >= 1 && inward <= 2 && others >= 1 && others <= 2;
                pans(fits ? 1 : 0, inward, others);
            }
        }
        s.of(Sentences.TERMS, "all COME at that HOUR or ahead,");
        WeighedGate x = Gates.free();
        Gates.in(x, 6, 1);
        Gates.out(x, 6, 1);
        x.set(0, 0, 3);
        s.row("the one at 3", h -> x.scales(3, h, 0), 0, 0, 0, 1, 1, 1, 1, 1, 1, 1);
        x.set(1, 0, 9);
        s.row("the other at 9", h -> x.scales(3, h, 0), 0, 0, 0, 0, 0, 0, 0, 0, 0, 1);
        s.of(Sentences.TERMS, "it is not OFF by more than SLACK,");
        WeighedGate y = Gates.free();
        Gates.in(y, 6, 1);
        Gates.out(y, 8, 1);
        for (int slack = 0; slack < 4; slack++) {
            y.scale(2, slack);
            s.is("2 on a slack of " + slack, slack < 2 ? 0 : 1, y.scales(3, 0, 0));
        }
    }

    private void mayBeByTheLaw() {
        s.of(Sentences.TERMS, "and may allows it.");
        WeighedGate x = Gates.under("may 1 - hour;fine 0;toll 0;");
        Gates.in(x, 6, 1);
        Gates.out(x, 6, 1);
        s.row("1 less hour is not 0", h -> x.scales(3, h, 0), 1, 0, 1, 1);
        WeighedGate y = Gates.under("may many < 3;fine 0;toll 0;");
        Gates.in(y, 6, 1);
        Gates.out(y, 6, 1);
        Gates.out(y, 6, 1);
        y.stone(6);
        s.is("two of two", 1, y.scales(3, 0, 0));
        s.is("three of two", 0, y.scales(7, 0, 0));
        s.is("it brings nothing", 0, y.scales(7, 0, 5));
    }

    private void brings() {
        s.of(Sentences.TERMS, "It BRINGS what its CARTS are WORTH then, less fine, less toll (below 0 well).");
        WeighedGate x = Gates.under("may 1;fine 7;toll hour;");
        x.cart(1, 1, 6, 20, 2);
        Gates.out(x, 6, 5);
        s.row("by hours", h -> x.scales(3, h, 5), 18, 15, 12, 9, 6, 3, 0, -3, -6, -9);
        WeighedGate y = Gates.under("may 1;fine 99;toll 99;");
        Gates.in(y, 6, 0);
        Gates.out(y, 6, 0);
        s.is("the least", -198, y.scales(3, 0, 5));
        WeighedGate z = Gates.free();
        for (int c = 0; c < 4; c++) {
            z.cart(c / 2, 3, 6, 99, 0);
        }
        s.is("the most", 792, z.scales(15, 0, 5));
    }
}
