/** Promises 36 to 40 and the term of sheets, sentence by sentence: the host. */
final class HostSentences {
    private static final int BAD = -2;

    private final Sentences s;

    HostSentences(Sentences s) {
        this.s = s;
    }

    void ask() {
        promise36();
        promise36Refused();
        promise37();
        promise37Refused();
        promise38();
        promise38Refused();
        promise39();
        promise39LeftOut();
        promise39Refused();
        promise40();
        promise40Refused();
        terms();
    }

    /** What a place holds, if that is 0 .. 99, else -2: the value of a cart by it. It takes the image, and sheet 3. */
    private static int held(WeighedGate x, int s, int sort, int i) {
        x.image();
        x.sheet(3, sort, 5);
        x.cell(3, 2, 1);
        x.copy(s, i, 3, 3, 1);
        int value = x.cartsBy(3, sort, 0, 1) == 1 ? x.cartTold(x.count(4) - 1, 4) : -2;
        x.back();
        return value;
    }

    private void promise36() {
        WeighedGate x = new WeighedGate();
        s.of(36, "A SHEET becomes a row of n of a sort,");
        for (int sort = 0; sort < 3; sort++) {
            for (int n : new int[] {0, 1, 39, 40}) {
                x.sheet(sort, sort, n);
                s.is("last of " + n + ", sort " + sort, n == 0 ? -12 : 1, x.cell(sort, n - 1, 7));
                s.is("behind " + n + ", sort " + sort, -12, x.cell(sort, n, 7));
                s.is("of no other sort than " + sort, -13, x.cartsBy(sort, (sort + 1) % 3, 0, 1));
            }
        }
        s.of(36, "all 0,");
        for (int sort = 0; sort < 3; sort++) {
            x.sheet(0, sort, 40);
            for (int i = 0; i < 40; i++) {
                x.cell(0, i, 1);
            }
            x.sheet(0, sort, 40);
            s.is("the first of sort " + sort, 0, held(x, 0, sort, 0));
            s.is("the last of sort " + sort, 0, held(x, 0, sort, 39));
        }
        s.of(36, "or missing (sort -1: n does not matter):");
        for (int n : new int[] {0, -1, 41, Gates.LEAST, Gates.MOST}) {
            x.sheet(1, 2, 3);
            s.is("n " + n, 1, x.sheet(1, -1, n));
            s.is("missing by " + n, -11, x.cell(1, 0, 0));
        }
        s.is("missing once more", 1, x.sheet(1, -1, 0));
        s.of(36, "matter): 1.");
        s.each("n", 1, n -> x.sheet(2, 2, n), 0, 1, 40);
        s.each("sort", 1, sort -> x.sheet(2, sort, 1), -1, 0, 1, 2);
        s.each("sheet", 1, sheet -> x.sheet(sheet, 0, 1), 0, 1, 2, 3);
    }

    private void promise36Refused() {
        WeighedGate x = new WeighedGate();
        x.sheet(0, 2, 5);
        x.cell(0, 4, 77);
        s.of(36, "BAD: SHEET,");
        s.each("sheet", BAD, sheet -> x.sheet(sheet, 0, 1), Gates.LEAST, -1, 4, Gates.MOST);
        s.each("missing", BAD, sheet -> x.sheet(sheet, -1, 0), -1, 4);
        s.each("ahead of -14", BAD, sheet -> x.sheet(sheet, 0, -1), -1, 4);
        s.of(36, "SHEET, sort,");
        s.each("sort", BAD, sort -> x.sheet(0, sort, 1), Gates.LEAST, -2, 3, Gates.MOST);
        s.each("ahead of -14", BAD, sort -> x.sheet(0, sort, -1), -2, 3);
        s.of(36, "n above 40;");
        s.each("n", BAD, n -> x.sheet(0, 2, n), 41, 42, Gates.MOST);
        s.of(36, "-14.");
        s.each("n", -14, n -> x.sheet(0, 2, n), Gates.LEAST, -2, -1);
        s.is("it stays", 77, held(x, 0, 2, 4));
        s.is("its size stays", -12, x.cell(0, 5, 1));
        s.is("a missing one stays", -11, x.cell(1, 0, 1));
    }

    private void promise37() {
        WeighedGate x = new WeighedGate();
        x.sheet(0, 2, 3);
        s.of(37, "Number i of a SHEET becomes v");
        x.cell(0, 0, 11);
        x.cell(0, 2, 33);
        s.row("held", i -> held(x, 0, 2, i), 11, 0, 33);
        s.of(37, "(of bytes, shorts its lowest 8, 16 bits, with their sign):");
        int[] values = {99, 300, 256, 127, 128, -157, -256, 65536 + 5, 65536 + 256, -65536 + 7, 1 << 31, -1};
        int[] ofBytes = {99, 44, 0, -2, -2, 99, 0, 5, 0, 7, 0, -2};
        int[] ofShorts = {99, -2, -2, -2, -2, -2, -2, 5, -2, 7, 0, -2};
        int[] ofInts = {99, -2, -2, -2, -2, -2, -2, -2, -2, -2, -2, -2};
        for (int i = 0; i < values.length; i++) {
            cellOf(0, values[i], ofBytes[i]);
            cellOf(1, values[i], ofShorts[i]);
            cellOf(2, values[i], ofInts[i]);
        }
        s.of(37, "sign): 1.");
        s.each("place", 1, i -> x.cell(0, i, 1), 0, 1, 2);
        s.each("value", 1, v -> x.cell(0, 1, v), Gates.LEAST, 0, Gates.MOST);
    }

    private void cellOf(int sort, int v, int want) {
        WeighedGate x = new WeighedGate();
        x.sheet(0, sort, 1);
        x.cell(0, 0, v);
        s.is(v + " in sort " + sort, want, held(x, 0, sort, 0));
    }

    private void promise37Refused() {
        WeighedGate x = new WeighedGate();
        x.sheet(2, 2, 3);
        s.of(37, "BAD: SHEET;");
        s.each("sheet", BAD, sheet -> x.cell(sheet, 0, 1), Gates.LEAST, -1, 4, Gates.MOST);
        s.each("ahead of -12", BAD, sheet -> x.cell(sheet, -1, 1), -1, 4);
        s.of(37, "-11;");
        s.each("sheet", -11, sheet -> x.cell(sheet, 0, 1), 0, 1, 3);
        s.each("ahead of -12", -11, i -> x.cell(0, i, 1), -1, 40);
        s.of(37, "-12.");
        s.each("place", -12, i -> x.cell(2, i, 1), Gates.LEAST, -1, 3, 39, 40, Gates.MOST);
        s.row("all stay 0", i -> held(x, 2, 2, i), 0, 0, 0);
        x.sheet(2, 0, 0);
        s.each("place of none", -12, i -> x.cell(2, i, 1), -1, 0, 1);
    }

    // ---- promise 38

    private static int sixOf(WeighedGate x, int sheet) {
        int six = 0;
        for (int i = 0; i < 6; i++) {
            six = 10 * six + held(x, sheet, 2, i);
        }
        return six;
    }

    private void copied(String how, int want, int i, int j, int n) {
        WeighedGate x = new WeighedGate();
        Due.tell(x, 0, 1, 2, 3, 4, 5, 6);
        s.is(how + ", how many", n, x.copy(0, i, 0, j, n));
        s.is(how, want, sixOf(x, 0));
    }

    private void promise38() {
        WeighedGate x = new WeighedGate();
        Due.tell(x, 0, 1, 2, 3, 4, 5, 6);
        Due.tell(x, 1, 0, 0, 0, 0, 0, 0);
        s.of(38, "n numbers of a SHEET, from i on, come to another one's (or its own) place j");
        x.copy(0, 1, 1, 3, 3);
        s.is("three came", 234, sixOf(x, 1));
        s.is("the first stays", 123456, sixOf(x, 0));
        x.copy(0, 0, 1, 0, 6);
        s.is("all came", 123456, sixOf(x, 1));
        s.of(38, "(or its own)");
        copied("apart", 123123, 0, 3, 3);
        copied("to where they are", 123456, 2, 2, 4);
        s.of(38, "(as they were):");
        copied("onwards", 121234, 0, 2, 4);
        copied("onwards by one", 112345, 0, 1, 5);
        copied("back", 345656, 2, 0, 4);
        copied("back by one", 234566, 1, 0, 5);
        s.of(38, "were): n.");
        s.is("none", 0, x.copy(0, 0, 1, 0, 0));
        s.is("none, from the end to the end", 0, x.copy(0, 6, 1, 6, 0));
        s.is("one", 1, x.copy(0, 5, 1, 5, 1));
        s.is("all", 6, x.copy(0, 0, 1, 0, 6));
        x.sheet(2, 0, 40);
        s.is("forty", 40, x.copy(2, 0, 2, 0, 40));
    }

    private void promise38Refused() {
        WeighedGate x = new WeighedGate();
        Due.tell(x, 0, 1, 2, 3, 4, 5, 6);
        s.of(38, "BAD: SHEETS;");
        s.each("the one", BAD, sheet -> x.copy(sheet, 0, 0, 0, 0), Gates.LEAST, -1, 4, Gates.MOST);
        s.each("the other", BAD, sheet -> x.copy(0, 0, sheet, 0, 0), Gates.LEAST, -1, 4, Gates.MOST);
        s.each("the other, ahead of -11", BAD, sheet -> x.copy(1, 0, sheet, 0, 0), -1, 4);
        s.of(38, "-11;");
        s.is("the one", -11, x.copy(1, 0, 0, 0, 0));
        s.is("the other", -11, x.copy(0, 0, 1, 0, 0));
        s.is("both", -11, x.copy(1, 0, 2, 0, 0));
        s.is("its own", -11, x.copy(1, 0, 1, 0, 0));
        s.is("ahead of -12", -11, x.copy(0, 0, 1, 0, -1));
        s.of(38, "-13: unlike sorts;");
        for (int sort = 0; sort < 3; sort++) {
            x.sheet(1, sort, 6);
            s.is("ints to sort " + sort, sort == 2 ? 0 : -13, x.copy(0, 0, 1, 0, 0));
            s.is("ahead of -12, sort " + sort, sort == 2 ? -12 : -13, x.copy(0, 0, 1, 0, -1));
        }
        s.of(38, "-12 (n below 0, too).");
        s.each("n", -12, n -> x.copy(0, 0, 1, 0, n), Gates.LEAST, -1, 7, Gates.MOST);
        s.each("i", -12, i -> x.copy(0, i, 1, 0, 1), Gates.LEAST, -1, 6, Gates.MOST);
        s.each("j", -12, j -> x.copy(0, 0, 1, j, 1), Gates.LEAST, -1, 6, Gates.MOST);
        s.each("i of none", -12, i -> x.copy(0, i, 1, 0, 0), -1, 7);
        s.each("j of none", -12, j -> x.copy(0, 0, 1, j, 0), -1, 7);
        s.each("i and all behind", -12, i -> x.copy(0, i, 1, 0, 6), 1, 5, Gates.MOST);
        s.each("j and all behind", -12, j -> x.copy(0, 0, 1, j, 6), 1, 5, Gates.MOST);
        s.is("none came", 0, sixOf(x, 1));
        s.is("its own stay", -12, x.copy(0, 0, 0, 1, 6));
        s.is("its own stayed", 123456, sixOf(x, 0));
    }

    // ---- promise 39

    private void promise39() {
        WeighedGate x = new WeighedGate();
        Due.tell(x, 2, 9, 1, 3, 11, 22, 4, 0, 5, 33, 44, 5, 7);
        s.of(39, "CARTS by a SHEET of a sort:");
        for (int sort = 0; sort < 3; sort++) {
            WeighedGate y = new WeighedGate();
            y.sheet(sort, sort, 5);
            y.cell(sort, 2, 99);
            s.is("sort " + sort, 1, y.cartsBy(sort, sort, 0, 1));
            s.is("its weight", 99, y.cartTold(0, 3));
        }
        s.of(39, "from a place on, five by five (as of cart()),");
        x.cartsBy(2, 2, 1, 2);
        s.row("the first", what -> x.cartTold(0, what), 0, 1, 3, 11, 22, 4);
        s.row("the second", what -> x.cartTold(1, what), 0, 0, 5, 33, 44, 5);
        s.of(39, "n of them (0 .. 8):");
        s.is("none", 0, x.cartsBy(2, 2, 0, 0));
        s.is("two stay", 2, x.count(4));
        WeighedGate y = new WeighedGate();
        y.sheet(1, 0, 40);
        for (int c = 0; c < 8; c++) {
            y.cell(1, 5 * c + 2, c + 1);
        }
        s.is("eight", 8, y.cartsBy(1, 0, 0, 8));
        s.is("the eighth", 8, y.cartTold(7, 3));
    }

    private void promise39LeftOut() {
        s.of(39, "how many came");
        WeighedGate x = new WeighedGate();
        Due.tell(x, 0, 0, 0, 5, 0, 0, 0, 0, 0, 0, 0, 1, 0, 6, 0, 0, 2, 0, 6, 0, 0, 0, 0, 7, 0, 0);
        s.is("one of one", 1, x.cartsBy(0, 2, 0, 1));
        s.is("one of two", 1, x.cartsBy(0, 2, 0, 2));
        s.is("none of one", 0, x.cartsBy(0, 2, 5, 1));
        s.is("three of five", 3, x.cartsBy(0, 2, 0, 5));
        s.of(39, "(others are left out).");
        s.is("five are", 5, x.count(4));
        s.row("weights", c -> x.cartTold(c, 3), 5, 5, 5, 6, 7, -5);
        s.of(Sentences.TERMS, "cartsBy(): what is refused is left out, those behind it come.");
        s.is("behind the second and the fourth", 2, x.cartsBy(0, 2, 5, 4));
        s.row("weights", c -> x.cartTold(c, 3), 5, 5, 5, 6, 7, 6, 7, -5);
        s.is("eight, nine, ten", 3, x.cartsBy(0, 2, 0, 5));
        s.is("none has room", 0, x.cartsBy(0, 2, 0, 5));
        s.is("ten are", 10, x.count(4));
    }

    private void promise39Refused() {
        WeighedGate x = new WeighedGate();
        x.sheet(0, 1, 12);
        x.cell(0, 2, 5);
        x.cell(0, 7, 6);
        s.of(39, "BAD: SHEET, sort, n;");
        s.each("sheet", BAD, sheet -> x.cartsBy(sheet, 1, 0, 1), Gates.LEAST, -1, 4, Gates.MOST);
        s.each("sort", BAD, sort -> x.cartsBy(0, sort, 0, 1), Gates.LEAST, -1, 3, Gates.MOST);
        s.each("n", BAD, n -> x.cartsBy(0, 1, 0, n), Gates.LEAST, -1, 9, Gates.MOST);
        s.each("n ahead of -11", BAD, n -> x.cartsBy(1, 1, 0, n), -1, 9);
        s.of(39, "-11;");
        s.each("sheet", -11, sheet -> x.cartsBy(sheet, 1, 0, 1), 1, 2, 3);
        s.each("none of it", -11, sheet -> x.cartsBy(sheet, 1, 0, 0), 1, 3);
        s.is("ahead of -12", -11, x.cartsBy(1, 1, -1, 1));
        s.of(39, "-13;");
        s.each("sort", -13, sort -> x.cartsBy(0, sort, 0, 1), 0, 2);
        s.each("none of it", -13, sort -> x.cartsBy(0, sort, 0, 0), 0, 2);
        s.each("ahead of -12", -13, sort -> x.cartsBy(0, sort, -1, 1), 0, 2);
        s.of(39, "-12: what stood ahead came.");
        s.each("place", -12, at -> x.cartsBy(0, 1, at, 1), Gates.LEAST, -5, -1, 8, 11, 12, Gates.MOST);
        s.each("eight of them", -12, at -> x.cartsBy(0, 1, at, 8), Gates.LEAST, -40, -1, 8, Gates.MOST);
        s.is("none came", 0, x.count(4));
        s.is("two and a part", -12, x.cartsBy(0, 1, 0, 3));
        s.row("two came", c -> x.cartTold(c, 3), 5, 6, -5);
        s.is("one and a part", -12, x.cartsBy(0, 1, 5, 2));
        s.row("one more came", c -> x.cartTold(c, 3), 5, 6, 6, -5);
        s.is("the last that has all five", 0, x.cartsBy(0, 1, 7, 1));
    }

    // ---- promise 40

    /** Two stones, and a cart of each kind. */
    private static WeighedGate ofAllKinds() {
        WeighedGate x = Gates.withStones(44, 55);
        for (int kind = 0; kind < 6; kind++) {
            x.cart(0, kind, 9, 9, 9);
        }
        return x;
    }

    private void promise40() {
        WeighedGate x = ofAllKinds();
        s.of(40, "What lies at place i: 0 .. 4 STONES, 5 .. 14 CARTS,");
        WeighedGate full = Gates.withStones(11, 22, 33, 44, 55);
        for (int c = 0; c < 10; c++) {
            Gates.in(full, 5, 5);
        }
        s.row("stones", i -> full.taken(i, 6), 11, 22, 33, 44, 55, -13);
        s.row("carts", i -> full.taken(i + 5, 0), 0, 1, 2, 3, 4, 5, 6, 7, 8, 9, -12);
        s.of(40, "taken for 0 .. 5 a CART of that KIND");
        for (int kind = 0; kind < 6; kind++) {
            s.is("kind " + kind, kind, x.taken(5 + kind, kind));
        }
        s.of(40, "(also of one that is one):");
        s.row("for a CART", c -> x.taken(c + 5, 0), 0, 1, 2, 3, 4, 5);
        s.row("for a SPOILING one", c -> x.taken(c + 5, 1), -13, 1, -13, 3, -13, -13);
        s.row("for a DRINKING one", c -> x.taken(c + 5, 2), -13, -13, 2, -13, -13, 5);
        s.row("for a RUSHED one", c -> x.taken(c + 5, 3), -13, -13, -13, 3, -13, -13);
        s.row("for a PERSON", c -> x.taken(c + 5, 4), -13, -13, -13, -13, 4, -13);
        s.row("for a MELTING one", c -> x.taken(c + 5, 5), -13, -13, -13, -13, -13, 5);
        s.of(40, "its number;");
        s.is("the first", 0, x.taken(5, 0));
        s.is("the last", 9, full.taken(14, 0));
        s.of(40, "6 a STONE: its weight.");
        s.is("the first", 44, x.taken(0, 6));
        s.is("the second", 55, x.taken(1, 6));
    }

    private void promise40Refused() {
        WeighedGate x = ofAllKinds();
        s.of(40, "BAD: kind;");
        s.each("kind", BAD, kind -> x.taken(5, kind), Gates.LEAST, -1, 7, Gates.MOST);
        s.each("ahead of -12", BAD, kind -> x.taken(15, kind), -1, 7);
        s.of(40, "-12: i;");
        s.each("place for a CART", -12, i -> x.taken(i, 0), Gates.LEAST, -1, 15, Gates.MOST);
        s.each("place for a STONE", -12, i -> x.taken(i, 6), Gates.LEAST, -1, 15, Gates.MOST);
        s.of(40, "-11: nothing lies there;");
        s.each("no stone", -11, i -> x.taken(i, 6), 2, 3, 4);
        s.each("no stone, for a CART", -11, i -> x.taken(i, 0), 2, 4);
        s.each("no cart", -11, i -> x.taken(i, 0), 11, 14);
        s.each("no cart, for a STONE", -11, i -> x.taken(i, 6), 11, 14);
        x.sell();
        s.is("one that was sold", -11, x.taken(1, 6));
        s.of(40, "-13.");
        s.each("a stone for any KIND", -13, kind -> x.taken(0, kind), 0, 1, 2, 3, 4, 5);
        s.each("any cart for a STONE", -13, i -> x.taken(i, 6), 5, 6, 7, 8, 9, 10);
        s.is("a CART for a PERSON", -13, x.taken(5, 4));
    }

    private void terms() {
        WeighedGate x = new WeighedGate();
        s.of(Sentences.TERMS, "SHEETS 0 .. 3 are rows of numbers, or missing (as all are at first):");
        s.row("cell of each", sheet -> x.cell(sheet, 0, 0), -11, -11, -11, -11, BAD);
        s.row("each becomes a row", sheet -> x.sheet(sheet, 0, 1), 1, 1, 1, 1, BAD);
        s.row("each is apart", sheet -> x.cell(sheet, 0, 5), 1, 1, 1, 1, BAD);
        s.of(Sentences.TERMS, "of sort 0 bytes, 1 shorts, 2 ints, 40 at most.");
        for (int sort = 0; sort < 3; sort++) {
            cellOf(sort, 256 + 9, sort == 0 ? 9 : -2);
            cellOf(sort, 65536 + 9, sort == 2 ? -2 : 9);
            s.is("forty of sort " + sort, 1, x.sheet(0, sort, 40));
            s.is("one more", BAD, x.sheet(0, sort, 41));
            s.is("the fortieth", 1, x.cell(0, 39, 1));
        }
    }
}
