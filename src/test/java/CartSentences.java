/** Promises 11 to 14 and the terms of carts, sentence by sentence: what they are, weigh, are worth. */
final class CartSentences {
    private static final int BAD = -2;
    private static final int STATE = -3;
    private static final int FULL = -4;
    private static final int PERSON = 4;

    private final Sentences s;

    CartSentences(Sentences s) {
        this.s = s;
    }

    void ask() {
        promise11();
        promise11Refused();
        promise12();
        promise12Refused();
        promise13();
        promise14();
        terms();
        kinds();
    }

    private void promise11() {
        WeighedGate x = new WeighedGate();
        s.of(11, "A CART (INWARD 1, or 0; KIND, WEIGHT, VALUE, MORE):");
        s.is("the least of each", 0, x.cart(0, 0, 1, 0, 0));
        s.row("told", what -> x.cartTold(0, what), 0, 0, 0, 1, 0, 0);
        s.is("the most of each", 1, x.cart(1, 5, 99, 99, 9));
        s.row("told", what -> x.cartTold(1, what), 0, 1, 5, 99, 99, 9);
        s.of(11, "its number.");
        for (int c = 2; c < 10; c++) {
            s.is("the next", c, x.cart(c % 2, c % 6, c, c, c));
        }
        WeighedGate y = new WeighedGate();
        y.image();
        y.cart(1, 1, 1, 1, 1);
        y.back();
        s.is("the first again", 0, y.cart(1, 1, 1, 1, 1));
    }

    private void promise11Refused() {
        WeighedGate x = new WeighedGate();
        s.of(11, "BAD;");
        askBad(x);
        s.is("none came", 0, x.count(4));
        for (int c = 0; c < 10; c++) {
            x.cart(1, 0, 5, 5, 5);
        }
        askBad(x);
        s.of(11, "FULL.");
        s.is("an eleventh", FULL, x.cart(0, 0, 1, 0, 0));
        s.is("another kind", FULL, x.cart(1, 5, 99, 99, 9));
        s.is("ten stay", 10, x.count(4));
        s.row("the last one stays", what -> x.cartTold(9, what), 0, 1, 0, 5, 5, 5);
    }

    private void askBad(WeighedGate x) {
        s.each("inward", BAD, v -> x.cart(v, 0, 5, 5, 5), Gates.LEAST, -1, 2, Gates.MOST);
        s.each("kind", BAD, v -> x.cart(0, v, 5, 5, 5), Gates.LEAST, -1, 6, Gates.MOST);
        s.each("weight", BAD, v -> x.cart(0, 0, v, 5, 5), Gates.LEAST, -1, 0, 100, Gates.MOST);
        s.each("value", BAD, v -> x.cart(0, 0, 5, v, 5), Gates.LEAST, -1, 100, Gates.MOST);
        s.each("more", BAD, v -> x.cart(0, 0, 5, 5, v), Gates.LEAST, -1, 10, Gates.MOST);
    }

    private void promise12() {
        WeighedGate x = new WeighedGate();
        x.cart(0, 0, 5, 5, 5);
        x.cart(0, PERSON, 5, 5, 5);
        s.of(12, "What 0 the HOUR at which a CART COMES,");
        x.set(0, 0, 9);
        s.is("the last hour", 9, x.cartTold(0, 0));
        s.is("the other's stays", 0, x.cartTold(1, 0));
        x.set(0, 0, 0);
        s.is("the first hour", 0, x.cartTold(0, 0));
        s.of(12, "1 whether it is INWARD (1, 0) becomes v:");
        x.set(1, 1, 1);
        s.is("inward", 1, x.cartTold(1, 1));
        s.is("against the other", 1, x.scales(3, 0, 0));
        x.set(1, 1, 0);
        s.is("not inward", 0, x.cartTold(1, 1));
        s.is("beside the other", 0, x.scales(3, 0, 0));
        s.of(12, "what was.");
        s.row("hour, to 9, 9, 0, 4 by turns", k -> x.set(0, 0, new int[] {9, 9, 0, 4}[k]), 0, 9, 9, 0);
        s.row("inward, to 1, 1, 0, 0 by turns", k -> x.set(1, 1, new int[] {1, 1, 0, 0}[k]), 0, 1, 1, 0);
    }

    private void promise12Refused() {
        WeighedGate x = new WeighedGate();
        x.cart(1, 0, 5, 5, 5);
        x.cart(0, PERSON, 5, 5, 5);
        x.set(0, 0, 3);
        s.of(12, "-5: no such CART;");
        s.each("hour", -5, c -> x.set(c, 0, 1), Gates.LEAST, -1, 2, 10, Gates.MOST);
        s.each("inward", -5, c -> x.set(c, 1, 1), -1, 2);
        s.each("ahead of -7", -5, c -> x.set(c, 2, 99), -1, 2);
        s.of(12, "-7: what,");
        s.each("what", -7, what -> x.set(1, what, 0), Gates.LEAST, -1, 2, Gates.MOST);
        s.each("what of one that may not be turned", -7, what -> x.set(0, what, 0), -1, 2);
        s.of(12, "what, v;");
        s.each("hour", -7, v -> x.set(0, 0, v), Gates.LEAST, -1, 10, Gates.MOST);
        s.each("inward", -7, v -> x.set(1, 1, v), Gates.LEAST, -1, 2, Gates.MOST);
        s.each("inward, ahead of STATE", -7, v -> x.set(0, 1, v), -1, 2);
        s.is("the hour stays", 3, x.cartTold(0, 0));
        s.is("not inward stays", 0, x.cartTold(1, 1));
        s.of(12, "STATE: it may not be turned round");
        for (int kind = 0; kind < 6; kind++) {
            WeighedGate y = new WeighedGate();
            y.cart(1, kind, 5, 5, 5);
            s.is("turning kind " + kind, kind == PERSON ? 1 : STATE, y.set(0, 1, 0));
            s.is("kind " + kind + " is inward", kind == PERSON ? 0 : 1, y.cartTold(0, 1));
        }
        s.of(12, "(what 1, whatever v is).");
        s.is("what it is", STATE, x.set(0, 1, 1));
        s.is("what it is not", STATE, x.set(0, 1, 0));
        s.is("but its hour", 3, x.set(0, 0, 1));
    }

    private void promise13() {
        WeighedGate x = new WeighedGate();
        x.cart(0, PERSON, 7, 8, 9);
        x.cart(1, 3, 44, 55, 6);
        s.of(13, "Of a CART what 0, 1 as of set(),");
        s.is("it comes", 0, x.cartTold(1, 0));
        x.set(1, 0, 7);
        s.is("it comes", 7, x.cartTold(1, 0));
        s.is("it is inward", 1, x.cartTold(1, 1));
        s.is("the other is not", 0, x.cartTold(0, 1));
        x.set(0, 1, 1);
        s.is("the other is turned", 1, x.cartTold(0, 1));
        s.of(13, "2 KIND,");
        s.is("kind", 3, x.cartTold(1, 2));
        s.is("kind", 4, x.cartTold(0, 2));
        s.of(13, "3 WEIGHT,");
        s.is("weight", 44, x.cartTold(1, 3));
        s.is("weight", 7, x.cartTold(0, 3));
        s.of(13, "4 VALUE,");
        s.is("value", 55, x.cartTold(1, 4));
        s.is("value", 8, x.cartTold(0, 4));
        s.of(13, "5 MORE.");
        s.is("more", 6, x.cartTold(1, 5));
        s.is("more", 9, x.cartTold(0, 5));
        s.of(13, "-5: no such CART;");
        s.each("cartTold(c, 0)", -5, c -> x.cartTold(c, 0), Gates.LEAST, -1, 2, 10, Gates.MOST);
        s.each("ahead of -7", -5, c -> x.cartTold(c, 6), -1, 2);
        s.of(13, "-7: what.");
        s.each("cartTold(1, what)", -7, what -> x.cartTold(1, what), Gates.LEAST, -1, 6, Gates.MOST);
    }

    private void promise14() {
        WeighedGate x = new WeighedGate();
        x.cart(1, 2, 10, 20, 3);
        x.cart(1, 1, 10, 20, 3);
        x.set(0, 0, 4);
        x.set(1, 0, 4);
        s.of(14, "What 0 a CART WEIGHS,");
        s.row("at(0, h, 0)", h -> x.at(0, h, 0), 10, 10, 10, 10, 10, 13, 16, 19, 22, 25);
        s.of(14, "1 is WORTH at an HOUR");
        s.row("at(1, h, 1)", h -> x.at(1, h, 1), 20, 20, 20, 20, 20, 17, 14, 11, 8, 5);
        s.of(14, "(ahead of that at which it COMES, too).");
        x.set(0, 0, 9);
        x.set(1, 0, 9);
        s.row("at(0, h, 0)", h -> x.at(0, h, 0), 10, 10, 10, 10, 10, 10, 10, 10, 10, 10);
        s.row("at(1, h, 1)", h -> x.at(1, h, 1), 20, 20, 20, 20, 20, 20, 20, 20, 20, 20);
        s.of(14, "-5: no such CART;");
        s.each("at(c, 0, 0)", -5, c -> x.at(c, 0, 0), Gates.LEAST, -1, 2, 10, Gates.MOST);
        s.each("ahead of -7", -5, c -> x.at(c, 10, 2), -1, 2);
        s.of(14, "-7: HOUR,");
        s.each("at(0, h, 0)", -7, h -> x.at(0, h, 0), Gates.LEAST, -1, 10, Gates.MOST);
        s.of(14, "HOUR, what.");
        s.each("at(0, 0, what)", -7, what -> x.at(0, 0, what), Gates.LEAST, -1, 2, Gates.MOST);
    }

    private void terms() {
        s.of(Sentences.TERMS, "HOURS 0 .. 9.");
        WeighedGate x = new WeighedGate();
        x.cart(1, 2, 1, 1, 1);
        s.each("set(0, 0, h)", -7, h -> x.set(0, 0, h), -1, 10);
        s.is("the last", 0, x.set(0, 0, 9));
        s.is("the first", 9, x.set(0, 0, 0));
        s.is("it weighs at the last", 10, x.at(0, 9, 0));
        s.is("it weighs at none behind", -7, x.at(0, 10, 0));
        s.of(Sentences.TERMS, "CARTS are numbered from 0 on, 10 at most: INWARD or not, of a KIND, with WEIGHT (1 .. 99), "
            + "VALUE (0 .. 99), MORE (0 .. 9);");
        WeighedGate y = new WeighedGate();
        for (int c = 0; c < 10; c++) {
            s.is("the number", c, y.cart(c % 2, c % 6, c < 5 ? 1 : 99, c < 5 ? 0 : 99, c < 5 ? 0 : 9));
        }
        s.is("the eleventh", FULL, y.cart(0, 0, 1, 0, 0));
        s.is("the tenth is there", 99, y.cartTold(9, 3));
        s.of(Sentences.TERMS, "each COMES at an HOUR (0 at first).");
        s.row("it comes", c -> y.cartTold(c, 0), 0, 0, 0, 0, 0, 0, 0, 0, 0, 0, -5);
        x.image();
        x.cart(1, 1, 1, 1, 1);
        x.set(1, 0, 6);
        x.back();
        x.cart(1, 1, 1, 1, 1);
        s.is("also one with the number of another that came at 6", 0, x.cartTold(1, 0));
        s.of(Sentences.TERMS, "It has WAITED at an HOUR as many HOURS as that is behind the one at which it COMES "
            + "(0 at least).");
        x.set(0, 0, 8);
        s.row("its weight and what it drank", h -> x.at(0, h, 0), 1, 1, 1, 1, 1, 1, 1, 1, 1, 2);
    }

    private void kind(int kind, int weight, int value, int more, long[] weighs, long[] worth) {
        WeighedGate x = new WeighedGate();
        x.cart(0, kind, weight, value, more);
        x.set(0, 0, 1);
        s.row("weighs", h -> x.at(0, h, 0), weighs);
        s.row("worth", h -> x.at(0, h, 1), worth);
    }

    private static long[] always(int v) {
        return new long[] {v, v, v, v, v, v, v, v, v, v};
    }

    private void kinds() {
        s.of(Sentences.TERMS, "KINDS: how much a CART WEIGHS at an HOUR, what it is WORTH then, "
            + "whether it may be turned round (INWARD or not).");
        WeighedGate x = new WeighedGate();
        for (int kind = 0; kind < 6; kind++) {
            x.cart(0, kind, 10, 20, 2);
        }
        s.row("weighs at 4", c -> x.at(c, 4, 0), 10, 10, 18, 10, 10, 2);
        s.row("worth at 4", c -> x.at(c, 4, 1), 20, 12, 20, 0, 18, 20);
        s.row("turned round", c -> x.set(c, 1, 1), STATE, STATE, STATE, STATE, 0, STATE);
        s.of(Sentences.TERMS, "0 CART: WEIGHT; VALUE; no.");
        kind(0, 10, 20, 9, always(10), always(20));
        s.is("turned", STATE, x.set(0, 1, 1));
        s.of(Sentences.TERMS, "1 SPOILING (a CART): WORTH MORE less for each HOUR it has WAITED (0 at least).");
        kind(1, 10, 20, 3, always(10), new long[] {20, 20, 17, 14, 11, 8, 5, 2, 0, 0});
        kind(1, 10, 16, 2, always(10), new long[] {16, 16, 14, 12, 10, 8, 6, 4, 2, 0});
        kind(1, 10, 0, 9, always(10), always(0));
        s.of(Sentences.TERMS, "2 DRINKING (a CART): WEIGHS MORE more for each HOUR it has WAITED.");
        kind(2, 99, 20, 9, new long[] {99, 99, 108, 117, 126, 135, 144, 153, 162, 171}, always(20));
        kind(2, 1, 0, 0, always(1), always(0));
        s.of(Sentences.TERMS, "3 RUSHED (a SPOILING): WORTH twice as much, but 0, if it has WAITED more than 3 HOURS.");
        kind(3, 10, 99, 1, always(10), new long[] {198, 198, 196, 194, 192, 0, 0, 0, 0, 0});
        kind(3, 10, 99, 0, always(10), new long[] {198, 198, 198, 198, 198, 0, 0, 0, 0, 0});
        s.of(Sentences.TERMS, "In doubt. The WORTH of a RUSHED one is twice that of a SPOILING, 0 at least;");
        kind(3, 10, 5, 3, always(10), new long[] {10, 10, 4, 0, 0, 0, 0, 0, 0, 0});
        s.of(Sentences.TERMS, "4 PERSON (a CART): WORTH MORE less (0 at least); yes.");
        kind(4, 10, 20, 9, always(10), always(11));
        kind(4, 10, 9, 9, always(10), always(0));
        kind(4, 10, 8, 9, always(10), always(0));
        s.is("turned", 1, x.set(4, 1, 0));
        s.of(Sentences.TERMS, "of a PERSON MORE less whenever.");
        kind(4, 10, 20, 1, always(10), always(19));
        s.of(Sentences.TERMS, "5 MELTING (a DRINKING): WEIGHS twice WEIGHT less what a DRINKING would (1 at least).");
        kind(5, 10, 20, 3, new long[] {10, 10, 7, 4, 1, 1, 1, 1, 1, 1}, always(20));
        kind(5, 9, 20, 1, new long[] {9, 9, 8, 7, 6, 5, 4, 3, 2, 1}, always(20));
        kind(5, 8, 20, 2, new long[] {8, 8, 6, 4, 2, 1, 1, 1, 1, 1}, always(20));
        s.of(Sentences.TERMS, "(Whatever isn't told is as of the KIND above.)");
        s.each("a CART, a SPOILING, a RUSHED one, a PERSON weighs", 10, c -> x.at(c, 9, 0), 0, 1, 3, 4);
        s.each("a CART, a DRINKING, a MELTING one is worth", 20, c -> x.at(c, 9, 1), 0, 2, 5);
        s.each("any but a PERSON, turned", STATE, c -> x.set(c, 1, 1), 0, 1, 2, 3, 5);
    }
}
