/** The document's first sentences, what the gate is and how many calls an object answers. */
final class OverviewSentences {
    private final Sentences s;

    OverviewSentences(Sentences s) {
        this.s = s;
    }

    void ask() {
        theGate();
        cartsAndStones();
        texts();
        makings();
        oneAgainstOne();
        theDay();
        told();
        byLotAndImages();
        fiveHundredAndTwelve();
    }

    private void of(String sentence) {
        s.of(Sentences.WHAT_IT_IS, sentence);
    }

    /** Carts 0, 2 inward, 1, 3 not, all of weight 5, the later two coming at hour 1; one against one alone. */
    private static WeighedGate four() {
        WeighedGate x = Gates.under("may many = 2;fine 0;toll 0;");
        Gates.in(x, 5, 10);
        Gates.out(x, 5, 1);
        Gates.in(x, 5, 20);
        Gates.out(x, 5, 2);
        x.set(2, 0, 1);
        x.set(3, 0, 1);
        return x;
    }

    private void theGate() {
        of("The weighed gate: nothing comes in through it but against what goes out at the same time,");
        WeighedGate x = Gates.free();
        Gates.in(x, 5, 99);
        Gates.in(x, 5, 99);
        s.is("two inward, none out", 0, x.dusk(10, 1));
        Gates.out(x, 5, 0);
        x.set(0, 0, 9);
        x.set(2, 0, 3);
        s.row("through at hours", h -> x.goes(h, 1), 0, 0, 0, 6, 0, 0, 0, 0, 0, 0);
        s.is("none is left to go out against the other", -1, x.goes(0, 0));
        of("on one scale;");
        WeighedGate y = four();
        y.set(2, 0, 0);
        y.set(3, 0, 0);
        s.row("one weighing an hour", h -> y.goes(h, 1), 12, 3, 0, 0, 0, 0, 0, 0, 0, 0);
    }

    private void cartsAndStones() {
        of("up to ten carts of kinds that come by hours, weigh, are worth something;");
        WeighedGate x = new WeighedGate();
        s.row("carts", c -> x.cart(c % 2, c % 6, 5 + c, 20 + c, 1), 0, 1, 2, 3, 4, 5, 6, 7, 8, 9, WeighedGate.FULL);
        s.row("kinds", c -> x.cartTold(c, 2), 0, 1, 2, 3, 4, 5, 0, 1, 2, 3);
        s.row("hours", c -> x.set(c, 0, c) + x.cartTold(c, 0), 0, 1, 2, 3, 4, 5, 6, 7, 8, 9);
        s.row("weigh at 9", c -> x.at(c, 9, 0), 5, 6, 14, 8, 9, 6, 11, 12, 14, 14);
        s.row("worth at 9", c -> x.at(c, 9, 1), 20, 13, 22, 0, 23, 25, 26, 25, 28, 58);
        of("stones that make it up, arms unlike;");
        WeighedGate y = Gates.withStones(3);
        Gates.in(y, 10, 9);
        Gates.out(y, 7, 9);
        s.is("3 made up by a stone", 1, y.scales(3, 0, 0));
        y.sell();
        s.is("by none", 0, y.scales(3, 0, 0));
        Gates.out(y, 5, 9);
        s.is("10 against 5 on like arms", 0, y.scales(5, 0, 0));
        y.scale(1, 2);
        s.is("on arms of 1, 2", 1, y.scales(5, 0, 0));
    }

    private void texts() {
        of("by a text what may be weighed, the fine for being off, the toll;");
        WeighedGate x = Gates.under("may in < 9;fine off * 3;toll 5;");
        x.scale(2, 9);
        Gates.in(x, 8, 20);
        Gates.out(x, 6, 20);
        Gates.in(x, 9, 20);
        s.is("8 in", 1, x.scales(3, 0, 0));
        s.is("9 in", 0, x.scales(6, 0, 0));
        s.is("40 less 2 * 3 less 5", 29, x.scales(3, 0, 5));
    }

    private void makings() {
        of("which differences stones make, which stone to own, a false one;");
        WeighedGate x = Gates.withStones(1, 3);
        s.row("made by how many", x::make, 0, 1, 2, 1, 2, -1);
        s.is("how many of 13", 4, x.makings(13, 0));
        s.is("9 more make all 13", 9, x.own(13, 0));
        s.is("all 13", 13, x.own(13, 1));
        s.is("5, by either", 3, x.falsely(5));
        s.is("6, by neither", 0, x.falsely(6));
    }

    private void oneAgainstOne() {
        of("one against one, two against two;");
        WeighedGate x = four();
        s.is("two pairs", 2, x.pairs(1, 0));
        s.is("0 against 1", 1, x.against(1, 0));
        s.is("all in one weighing, but for the law", 0, x.scales(15, 1, 0));
        x.force(0);
        s.is("all in one weighing", 15, x.best(1, 0));
    }

    private void theDay() {
        of("a day hour by hour, waits, an hour to hold back, what a cart is worth, when it should come;");
        WeighedGate x = four();
        s.row("a day hour by hour", h -> x.goes(h, 1), 3, 12, 0, 0, 0, 0, 0, 0, 0, 0);
        s.is("none waits", 0, x.dusk(10, 3));
        s.is("no hour to hold back", -1, x.hold(0));
        s.is("cart 2 is worth it and what it lets through", 22, x.gain(2));
        s.is("it should come as late as can be", 9, x.bring(2, 0));
        x.set(1, 0, 2);
        s.row("the two wait for one another", h -> x.goes(h, 1), 0, 12, 3, 0, 0, 0, 0, 0, 0, 0);
        s.is("two hours", 2, x.dusk(10, 3));
    }

    private void told() {
        of("weighings judged, days that texts tell, who must have been weighed;");
        WeighedGate x = four();
        Due.tell(x, 0, 0, 3, 1, 12);
        s.is("no row that can't be", -1, x.judge(0));
        s.is("the day by either law", 3, x.laws(0));
        x.set(2, 0, 0);
        x.set(3, 0, 0);
        Due.tell(x, 0, 0, 12, 1, 3);
        s.is("the day by the text, not by the first law, by which all four go at once", 2, x.laws(0));
        s.is("two carts that weigh 10, any", 6, x.lost(0, 2, 10, 0));
        s.is("all four that weigh 20", 15, x.lost(0, 4, 20, 1));
    }

    private void byLotAndImages() {
        of("days by lot;");
        WeighedGate x = four();
        // The lots 48271, 182605794, 1291394886, 1914720637: the carts come at hours 1, 4, 6, 7.
        s.is("by seed 0: 0 against 1, 2 against 3", 15, x.drawn(0, 1));
        s.is("all of one seed", 1, x.odds(0, 0, 1, 0));
        of("images.");
        s.is("kept", 4, x.image());
        Gates.in(x, 5, 5);
        s.is("back", 4, x.back());
    }

    private void fiveHundredAndTwelve() {
        of("An object is used for at most 512 calls after it has been made;");
        WeighedGate x = Gates.free();
        int fed = Gates.FREE.length() + 2;
        for (int calls = fed; calls < 507; calls++) {
            x.scale(2, calls % 10);
        }
        x.scale(2, 0);
        Gates.in(x, 5, 5);
        Gates.out(x, 5, 5);
        s.is("the 511th call", 5, x.at(0, 9, 0));
        s.is("the 512th call", 10, x.dusk(10, 0));
        of("what later calls answer is free.");
        s.holds("it only may not throw", laterCallsEnd(x));
    }

    private static boolean laterCallsEnd(WeighedGate x) {
        for (int call = 0; call < 2000; call++) {
            x.stone(call % 100);
            x.cart(call % 2, call % 6, 9, 9, 9);
            x.feed(5, ' ', ' ', ' ', ' ', ' ');
            x.text();
            x.sheet(call % 5, call % 3, call % 42);
            x.film(call % 4);
            x.drawn(call, 0);
        }
        return x.count(4) <= 10;
    }
}
