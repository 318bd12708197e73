/** Promises 23 to 27 and the term of a day, sentence by sentence. */
final class DaySentences {
    private static final int BAD = -2;
    private static final String ONE_EACH = "may many = 2;fine 0;toll 0;";

    private final Sentences s;

    DaySentences(Sentences s) {
        this.s = s;
    }

    void ask() {
        promise23();
        promise23Waits();
        promise23Refused();
        promise24();
        promise24Refused();
        promise25();
        promise25Ends();
        promise26();
        promise27();
        promise27Refused();
        terms();
        termsOfTheMost();
    }

    /** Two inward ones and two others, all alike but for when they come; a day weighs one against one. */
    private static WeighedGate fourAlike(int... hours) {
        WeighedGate x = Gates.under(ONE_EACH);
        Gates.in(x, 5, 10);
        Gates.in(x, 5, 10);
        Gates.out(x, 5, 1);
        Gates.out(x, 5, 1);
        for (int c = 0; c < hours.length; c++) {
            x.set(c, 0, hours[c]);
        }
        return x;
    }

    private void promise23() {
        s.of(23, "A DAY of n (0 .. 10) HOURS:");
        WeighedGate x = fourAlike(0, 0, 0, 9);
        s.row("through by n", n -> x.dusk(n, 1), 0, 5, 5, 5, 5, 5, 5, 5, 5, 5, 15);
        s.of(23, "what 0 all EARNED,");
        s.row("earned by n", n -> x.dusk(n, 0), 0, 11, 11, 11, 11, 11, 11, 11, 11, 11, 22);
        s.is("of no carts", 0, new WeighedGate().dusk(10, 0));
        s.of(23, "1 CARTS (bits) that are THROUGH,");
        WeighedGate y = fourAlike(0, 0, 3, 0);
        s.row("through by n", n -> y.dusk(n, 1), 0, 9, 9, 9, 15, 15);
        s.is("of no carts", 0, new WeighedGate().dusk(10, 1));
        s.of(23, "2 how much more was in than out (as they WEIGHED then, without ARMS),");
        WeighedGate z = Gates.under(ONE_EACH);
        z.scale(2, 6);
        Gates.in(z, 5, 10);
        z.cart(0, 2, 5, 10, 3);
        z.cart(1, 5, 20, 10, 2);
        Gates.out(z, 7, 10);
        z.set(0, 0, 1);
        z.set(3, 0, 3);
        s.row("more in by n", n -> z.dusk(n, 2), 0, 0, -3, -3, -3, 2);
        z.scale(0, 2);
        z.scale(1, 3);
        z.scale(2, 1);
        s.row("16 and 11 on arms of 2, 3", n -> z.dusk(n, 2), 0, 0, 0, 5, 5, 5);
        s.is("of no carts", 0, new WeighedGate().dusk(10, 2));
    }

    private void promise23Waits() {
        s.of(23, "3 the longest that any that is THROUGH had WAITED then (0),");
        WeighedGate x = fourAlike(0, 2, 3, 4);
        s.row("waited by n", n -> x.dusk(n, 3), 0, 0, 0, 0, 3, 3, 3);
        WeighedGate y = fourAlike(6, 0, 6, 1);
        s.row("waited by n", n -> y.dusk(n, 3), 0, 0, 1, 1, 1, 1, 1, 1);
        s.is("9 hours", 9, fourAlike(0, 9, 9, 9).dusk(10, 3));
        s.is("those that are not have waited", 0, fourAlike(9, 9, 0, 0).dusk(9, 3));
        s.is("of no carts", 0, new WeighedGate().dusk(10, 3));
        s.of(23, "4 of those that are not the longest from when it COMES till n (0 at least).");
        s.row("left by n", n -> x.dusk(n, 4), 0, 1, 2, 3, 2, 0, 0);
        s.row("left of none that has come", n -> fourAlike(8, 8, 9, 9).dusk(n, 4), 0, 0, 0, 0, 0, 0, 0, 0, 0, 1, 2);
        WeighedGate alone = new WeighedGate();
        Gates.in(alone, 5, 5);
        s.row("left of one alone", n -> alone.dusk(n, 4), 0, 1, 2, 3, 4, 5, 6, 7, 8, 9, 10);
        s.is("of no carts", 0, new WeighedGate().dusk(10, 4));
    }

    private void promise23Refused() {
        WeighedGate x = fourAlike();
        s.of(23, "-5: n;");
        s.each("dusk(n, 0)", -5, n -> x.dusk(n, 0), Gates.LEAST, -1, 11, Gates.MOST);
        s.each("ahead of -7", -5, n -> x.dusk(n, 5), -1, 11);
        s.of(23, "-7: what.");
        s.each("dusk(10, what)", -7, what -> x.dusk(10, what), Gates.LEAST, -1, 5, Gates.MOST);
        s.each("dusk(0, what)", -7, what -> x.dusk(0, what), -1, 5);
    }

    private void promise24() {
        WeighedGate x = fourAlike(0, 0, 0, 9);
        Gates.out(x, 7, 1);
        s.of(24, "By DUSK: what 0 the HOUR at which CART k goes THROUGH (-1: at none),");
        s.row("goes(k, 0)", k -> x.goes(k, 0), 0, 9, 0, 9, -1, -5);
        Due.read(x, "may 0;fine 0;toll 0;");
        x.force(2);
        s.row("goes(k, 0), if none may be", k -> x.goes(k, 0), -1, -1, -1, -1, -1, -5);
        x.force(1);
        s.of(24, "1 CARTS (bits) that do at HOUR k.");
        s.row("goes(k, 1)", k -> x.goes(k, 1), 5, 0, 0, 0, 0, 0, 0, 0, 0, 10, -5);
        s.is("of no carts", 0, new WeighedGate().goes(9, 1));
    }

    private void promise24Refused() {
        WeighedGate x = fourAlike();
        s.of(24, "BAD: what;");
        s.each("goes(0, what)", BAD, what -> x.goes(0, what), Gates.LEAST, -1, 2, Gates.MOST);
        s.each("ahead of -5", BAD, what -> x.goes(10, what), -1, 2);
        s.of(24, "-5: no such CART,");
        s.each("goes(k, 0)", -5, k -> x.goes(k, 0), Gates.LEAST, -1, 4, 9, 10, Gates.MOST);
        s.of(24, "CART, HOUR.");
        s.each("goes(k, 1)", -5, k -> x.goes(k, 1), Gates.LEAST, -1, 10, Gates.MOST);
        s.each("hours that are no cart's number", 0, k -> x.goes(k, 1), 4, 9);
    }

    /** The first goes at once against a poor one, though a rich one comes an hour later. */
    private static WeighedGate greedy(int hour) {
        WeighedGate x = Gates.free();
        Gates.in(x, 5, 10);
        Gates.out(x, 5, 0);
        Gates.out(x, 5, 40);
        x.set(0, 0, hour);
        x.set(2, 0, hour + 1);
        return x;
    }

    private void promise25() {
        s.of(25, "The HOUR by which, were nothing weighed at it, most is EARNED by DUSK,");
        s.row("the hour ahead of the rich one", h -> greedy(h).hold(0), 0, 1, 2, 3, 4, 5, 6, 7, 8);
        WeighedGate x = greedy(3);
        x.hold(0);
        s.is("nothing is held by asking", 10, x.dusk(10, 0));
        s.of(25, "if more than so,");
        WeighedGate y = Gates.free();
        Gates.in(y, 5, 10);
        Gates.out(y, 5, 10);
        s.is("as much, an hour later", -1, y.hold(0));
        y.set(0, 0, 9);
        s.is("less", -1, y.hold(0));
        s.of(25, "of like ones the first (what 0; -1: none),");
        WeighedGate z = greedy(0);
        Gates.in(z, 9, 10);
        Gates.out(z, 9, 0);
        Gates.out(z, 9, 40);
        z.set(3, 0, 8);
        z.set(5, 0, 9);
        s.is("0 or 8", 0, z.hold(0));
        z.set(0, 0, 4);
        z.set(2, 0, 5);
        s.is("4 or 8", 4, z.hold(0));
        s.is("of no carts", -1, new WeighedGate().hold(0));
        s.of(25, "how much (1).");
        s.is("the rich one, and the other two", 60, z.hold(1));
        s.is("of no carts", 0, new WeighedGate().hold(1));
        s.of(Sentences.TERMS, "hold(): if none is better, what 1 is what is EARNED with none held.");
        s.is("at the last hour", 20, y.hold(1));
        y.set(0, 0, 0);
        s.is("at the first hour", 20, y.hold(1));
    }

    private void promise25Ends() {
        s.of(25, "BAD.");
        WeighedGate x = greedy(0);
        s.each("hold", BAD, x::hold, Gates.LEAST, -1, 2, Gates.MOST);
    }

    private void promise26() {
        s.of(26, "How much more is EARNED by DUSK than if a CART never came.");
        WeighedGate x = greedy(0);
        s.row("gain", x::gain, 10, -40, 0);
        s.is("all come then", 10, x.dusk(10, 0));
        s.is("when it comes stays", 1, x.cartTold(2, 0));
        WeighedGate ten = Gates.under(ONE_EACH);
        for (int c = 0; c < 10; c++) {
            ten.cart(c % 2, 0, 1 + c / 2, 9, 0);
        }
        s.row("each of ten", ten::gain, 18, 18, 18, 18, 18, 18, 18, 18, 18, 18);
        s.of(26, "-100000: no such CART.");
        s.each("gain", -100000, x::gain, Gates.LEAST, -1, 3, 10, 31, 32, 33, Gates.MOST);
        s.is("of no carts", -100000, new WeighedGate().gain(0));
    }

    private void promise27() {
        s.of(27, "The HOUR by which, did a CART COME at it, most is EARNED by DUSK,");
        WeighedGate x = greedy(0);
        s.is("at 0 the rich one goes", 0, x.bring(2, 0));
        WeighedGate y = new WeighedGate();
        Gates.in(y, 5, 10);
        Gates.out(y, 5, 10);
        y.set(0, 0, 4);
        s.is("toll 0 at 0", 0, y.bring(0, 0));
        s.of(27, "of like ones the last (what 0),");
        s.is("at 0 .. 4, toll 4 at 4", 4, y.bring(1, 0));
        s.is("at 1 .. 9 the rich one goes", 9, x.bring(0, 0));
        WeighedGate alone = new WeighedGate();
        Gates.in(alone, 5, 5);
        s.is("nothing whenever", 9, alone.bring(0, 0));
        s.of(27, "how much (1).");
        s.is("the rich one", 50, x.bring(2, 1));
        s.is("20 at 0", 20, y.bring(0, 1));
        s.is("16 at 4", 16, y.bring(1, 1));
        s.is("nothing", 0, alone.bring(0, 1));
        s.of(Sentences.TERMS, "bring(): of all HOURS 0 .. 9, its own, too.");
        WeighedGate z = Gates.under("may hour = 9 or hour = 0;fine 0;toll hour;");
        z.cart(1, 1, 5, 90, 9);
        z.cart(0, 0, 5, 0, 0);
        s.is("its own, 0", 0, z.bring(0, 0));
        s.is("at 0", 90, z.bring(0, 1));
        z.set(1, 0, 9);
        s.is("the last", 9, z.bring(0, 0));
        s.is("at 9", 81, z.bring(0, 1));
        z.set(0, 0, 9);
        s.is("its own, 9", 9, z.bring(0, 0));
        s.is("it stays", 9, z.cartTold(0, 0));
        WeighedGate thirsty = Gates.under("may hour = 0;fine 0;toll 0;");
        thirsty.cart(1, 2, 4, 50, 1);
        Gates.out(thirsty, 5, 0);
        s.is("none ahead of 0, at which it would have drunk by 0", 0, thirsty.bring(0, 1));
        s.is("any of 0 .. 9", 9, thirsty.bring(0, 0));
    }

    private void promise27Refused() {
        WeighedGate x = greedy(0);
        s.of(27, "-5: no such CART;");
        s.each("bring(c, 0)", -5, c -> x.bring(c, 0), Gates.LEAST, -1, 3, 10, Gates.MOST);
        s.each("ahead of -7", -5, c -> x.bring(c, 2), -1, 3);
        s.of(27, "-7: what.");
        s.each("bring(0, what)", -7, what -> x.bring(0, what), Gates.LEAST, -1, 2, Gates.MOST);
    }

    private void terms() {
        s.of(Sentences.TERMS, "A DAY of n HOURS: HOUR by HOUR from 0 on,");
        WeighedGate x = Gates.under("may many = 2;fine 0;toll hour;");
        for (int c = 0; c < 10; c++) {
            x.cart(c % 2, 0, 5, 10, 0);
        }
        s.row("two each hour", h -> x.goes(h, 1), 3, 12, 48, 192, 768, 0, 0, 0, 0, 0);
        s.row("earned by n", n -> x.dusk(n, 0), 0, 20, 39, 57, 74, 90, 90, 90, 90, 90, 90);
        s.of(Sentences.TERMS, "of CARTS that are not THROUGH,");
        WeighedGate y = Gates.free();
        Gates.in(y, 5, 90);
        Gates.out(y, 5, 1);
        Gates.out(y, 5, 2);
        s.row("the first goes once", h -> y.goes(h, 1), 5, 0, 0);
        s.of(Sentences.TERMS, "these are THROUGH then.");
        s.row("through by n", n -> y.dusk(n, 1), 0, 5, 5);
        s.of(Sentences.TERMS, "All EARNED: what these BRING together.");
        s.is("one weighing", 92, y.dusk(10, 0));
        s.is("five weighings", 90, x.dusk(10, 0));
        s.of(Sentences.TERMS, "DUSK: behind all 10 HOURS.");
        WeighedGate z = fourAlike(9, 9, 9, 9);
        s.is("the last hour", 9, z.goes(0, 0));
        s.is("nothing behind it", -1, z.goes(1, 0));
        s.is("by dusk", 11, z.hold(1));
        s.is("a day of 9 hours", 0, z.dusk(9, 0));
    }

    private void termsOfTheMost() {
        s.of(Sentences.TERMS, "the WEIGHING that MAY BE and BRINGS most,");
        WeighedGate x = Gates.under("may in < 6;fine 0;toll 0;");
        Gates.in(x, 9, 99);
        Gates.out(x, 9, 99);
        Gates.in(x, 5, 10);
        Gates.out(x, 5, 10);
        Gates.out(x, 5, 11);
        s.row("the richer one that may be", h -> x.goes(h, 1), 4 | 16, 0);
        s.of(Sentences.TERMS, "if that is above 0, of like ones");
        WeighedGate y = Gates.under("may 1;fine 0;toll 5 - hour;");
        Gates.in(y, 5, 1);
        Gates.out(y, 5, 1);
        s.is("-3, -2, -1, 0, 1", 4, y.goes(0, 0));
        s.is("so much", 1, y.dusk(10, 0));
        s.of(Sentences.TERMS, "of like ones the least as bits of CARTS:");
        WeighedGate z = fourAlike();
        s.row("5 ahead of 6, 9, 10", h -> z.goes(h, 1), 5, 10);
        WeighedGate w = Gates.free();
        Gates.out(w, 5, 0);
        Gates.in(w, 5, 7);
        Gates.out(w, 5, 0);
        Gates.in(w, 5, 0);
        s.is("3 ahead of 6, 15", 3, w.goes(0, 1));
    }
}
