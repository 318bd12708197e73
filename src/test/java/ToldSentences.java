/** Promises 28 to 31, sentence by sentence: weighings judged, laws that fit, the film, who must have been weighed. */
final class ToldSentences {
    private static final int BAD = -2;

    private final Sentences s;

    ToldSentences(Sentences s) {
        this.s = s;
    }

    void ask() {
        promise28();
        promise28ByTheWeighing();
        promise28Refused();
        promise29();
        promise29Refused();
        promise30();
        promise31();
        promise31Refused();
    }

    /** Carts 0, 1 inward, 2, 3 not, all of weight 5; the last comes at hour 3. */
    private static WeighedGate four() {
        WeighedGate x = new WeighedGate();
        Gates.in(x, 5, 30);
        Gates.in(x, 5, 20);
        Gates.out(x, 5, 10);
        Gates.out(x, 5, 1);
        x.set(3, 0, 3);
        return x;
    }

    private void judged(int row, int... numbers) {
        WeighedGate x = four();
        Due.tell(x, 3, numbers);
        s.is("judge of " + java.util.Arrays.toString(numbers), row, x.judge(3));
    }

    private void promise28() {
        s.of(28, "A SHEET tells rows of two, an HOUR and CARTS (bits):");
        judged(-1, 0, 5);
        judged(-1, 3, 5, 9, 10);
        judged(1, 0, 5, 3, 1);
        s.of(28, "the first row that is none such");
        judged(0, -1, 5);
        judged(0, 10, 5);
        judged(0, 0, 16);
        judged(0, 0, 21);
        judged(0, 0, -1);
        judged(0, Gates.LEAST, 5);
        judged(0, 0, Gates.LEAST);
        judged(1, 3, 5, Gates.MOST, 10);
        judged(1, 3, 5, 4, 26, 5, 16);
        s.of(28, "(no CARTS, too),");
        judged(0, 0, 0);
        judged(1, 3, 5, 4, 0);
        judged(0, 0, 0, 3, 5);
        s.of(28, "not later than the one ahead,");
        judged(1, 3, 5, 3, 10);
        judged(1, 4, 5, 3, 10);
        judged(-1, 3, 5, 4, 10);
        s.of(28, "with any CART that was told ahead,");
        judged(1, 3, 5, 4, 9);
        judged(1, 3, 5, 4, 6);
        judged(1, 3, 5, 4, 15);
        judged(2, 3, 5, 4, 10, 5, 5);
        judged(2, 3, 5, 4, 10, 9, 6);
        s.of(28, "-1: none.");
        judged(-1);
        judged(-1, 3, 15);
        judged(-1, 0, 5, 9, 10);
        WeighedGate ten = Gates.under("may many = 2;fine 0;toll 0;");
        for (int c = 0; c < 10; c++) {
            ten.cart(c % 2, 0, 5, 9, 0);
        }
        Due.tell(ten, 0, 1, 3, 3, 12, 5, 48, 7, 192, 9, 768);
        s.is("five rows", -1, ten.judge(0));
        ten.cell(0, 9, 512);
        s.is("the fifth", 4, ten.judge(0));
    }

    private void promise28ByTheWeighing() {
        s.of(28, "or no WEIGHING that MAY BE;");
        judged(0, 2, 9);
        judged(0, 3, 3);
        judged(0, 3, 7);
        judged(0, 3, 1);
        judged(0, 3, 4);
        WeighedGate x = four();
        Due.read(x, "may hour = 4;fine 99;toll 99;");
        Due.tell(x, 0, 3, 5, 4, 10);
        s.is("by the first law", -1, x.judge(0));
        x.force(1);
        s.is("by the second", 0, x.judge(0));
        Due.tell(x, 0, 4, 10);
        s.is("one that costs", -1, x.judge(0));
        x.scale(0, 2);
        s.is("off", 0, x.judge(0));
    }

    private void promise28Refused() {
        WeighedGate x = four();
        s.of(28, "BAD: SHEET;");
        s.each("judge", BAD, x::judge, Gates.LEAST, -1, 4, Gates.MOST);
        s.of(28, "-11;");
        s.each("judge", -11, x::judge, 0, 1, 2, 3);
        x.sheet(2, 0, 3);
        x.sheet(2, -1, 0);
        s.is("missing again", -11, x.judge(2));
        s.of(28, "BAD: its size is odd.");
        for (int sort = 0; sort < 3; sort++) {
            for (int n = 0; n <= 40; n++) {
                x.sheet(1, sort, n);
                s.is(n + " numbers, all 0, of sort " + sort, n % 2 == 1 ? BAD : n == 0 ? -1 : 0, x.judge(1));
            }
        }
    }

    // ---- promises 29, 30

    private void promise29() {
        s.of(29, "TEXTS (bits), were they THE LAW,");
        WeighedGate x = four();
        Due.read(x, "may many = 2;fine 0;toll 0;");
        Due.read(x, "may 0;fine 0;toll 0;");
        Due.read(x, "may many = 2 or hour = 9;fine 9;toll 9;");
        Due.read(x, "may many = 2 and hour < 3;fine 0;toll 0;");
        Due.tell(x, 0, 0, 5, 3, 10);
        s.is("the first, the second, the fourth", 1 | 2 | 8, x.laws(0));
        x.force(2);
        s.is("whatever the law is", 1 | 2 | 8, x.laws(0));
        s.is("the law stays", 2, x.count(6));
        WeighedGate y = new WeighedGate();
        y.sheet(0, 2, 0);
        s.is("one text", 1, y.laws(0));
        for (int t = 1; t < 6; t++) {
            Due.read(y, Gates.FREE);
        }
        s.is("all six", 63, y.laws(0));
        s.of(29, "by which WEIGHINGS of the DAY till DUSK are just these rows.");
        Due.tell(x, 0, 0, 5);
        s.is("a row less", 16, x.laws(0));
        Due.tell(x, 0);
        s.is("no rows", 4, x.laws(0));
        Due.tell(x, 0, 0, 5, 3, 10, 4, 0);
        s.is("a row more", 0, x.laws(0));
        Due.tell(x, 0, 3, 10, 0, 5);
        s.is("another order", 0, x.laws(0));
        Due.tell(x, 0, 0, 5, 4, 10);
        s.is("another hour", 0, x.laws(0));
        Due.tell(x, 0, 0, 6, 3, 10);
        s.is("another cart", 0, x.laws(0));
        Due.tell(x, 0, 0, 5, 3, 26);
        s.is("a cart that is none", 0, x.laws(0));
        x.set(3, 0, 9);
        Due.tell(x, 0, 0, 5, 9, 10);
        s.is("the last hour", 1 | 2 | 8, x.laws(0));
        x.sheet(1, 0, 4);
        x.cell(1, 1, 5);
        x.cell(1, 2, 9);
        x.cell(1, 3, 10);
        s.is("rows of bytes", 1 | 2 | 8, x.laws(1));
    }

    private void promise29Refused() {
        WeighedGate x = four();
        s.of(29, "BAD, -11, BAD likewise.");
        s.each("no sheet", BAD, x::laws, Gates.LEAST, -1, 4, Gates.MOST);
        s.each("missing", -11, x::laws, 0, 1, 2, 3);
        for (int n = 1; n < 40; n += 2) {
            x.sheet(3, 2, n);
            s.is("odd, " + n, BAD, x.laws(3));
        }
    }

    private void promise30() {
        s.of(30, "A SHEET truly becomes WEIGHINGS of the DAY till DUSK,");
        WeighedGate x = four();
        x.sheet(1, 0, 3);
        x.film(1);
        s.is("by the law", 1, x.laws(1));
        s.is("it may be so", -1, x.judge(1));
        x.film(3);
        s.is("a missing one", 1, x.laws(3));
        x.set(3, 0, 9);
        s.is("another day", 0, x.laws(1));
        x.film(1);
        s.is("the last hour", 1, x.laws(1));
        s.of(30, "two ints each:");
        s.is("four numbers", 1, x.cell(1, 3, 10));
        s.is("no fifth", -12, x.cell(1, 4, 0));
        x.sheet(0, 2, 9);
        s.is("of ints", 4, x.copy(1, 0, 0, 0, 4));
        x.cell(1, 3, 65536 + 10);
        s.is("65546 is not 10", 0, x.laws(1));
        s.of(30, "how many there are.");
        s.is("two", 2, x.film(1));
        Due.read(x, "may 0;fine 0;toll 0;");
        x.force(1);
        s.is("none", 0, x.film(1));
        s.is("an empty one", -12, x.cell(1, 0, 0));
        s.is("it is there", -1, x.judge(1));
        WeighedGate ten = Gates.under("may many = 2;fine 0;toll 0;");
        for (int c = 0; c < 10; c++) {
            ten.cart(c % 2, 0, 5, 9, 0);
        }
        s.is("five", 5, ten.film(0));
        s.is("ten numbers", 1, ten.cell(0, 9, 768));
        s.is("no eleventh", -12, ten.cell(0, 10, 0));
        s.is("of no carts", 0, new WeighedGate().film(0));
        s.of(30, "BAD.");
        s.each("film", BAD, x::film, Gates.LEAST, -1, 4, Gates.MOST);
        s.is("none became one", -11, x.cell(2, 0, 0));
    }

    // ---- promise 31

    private void lost(WeighedGate x, int h, int n, int weight, long... wants) {
        s.row("lost(" + h + ", " + n + ", " + weight + ", what)", what -> x.lost(h, n, weight, what), wants);
    }

    private void promise31() {
        WeighedGate x = new WeighedGate();
        Gates.in(x, 5, 0);
        Gates.out(x, 3, 0);
        x.cart(1, 2, 1, 0, 1);
        Gates.out(x, 7, 0);
        x.set(3, 0, 9);
        s.of(31, "Sets of n (0 .. 10) CARTS");
        lost(x, 0, 0, 0, 1, 0, 0);
        lost(x, 0, 1, 7, 1, 8, 8);
        lost(x, 0, 4, 16, 1, 15, 15);
        lost(x, 0, 5, 16, 0, 0, 0);
        lost(x, 0, 10, 16, 0, 0, 0);
        WeighedGate ten = new WeighedGate();
        for (int c = 0; c < 10; c++) {
            ten.cart(c % 2, 2, 99, 0, 9);
        }
        lost(ten, 0, 10, 990, 1, 1023, 1023);
        lost(ten, 9, 10, 1800, 1, 1023, 1023);
        s.of(31, "that together WEIGH weight (0 .. 9999) at an HOUR");
        lost(x, 0, 2, 10, 1, 10, 10);
        lost(x, 2, 2, 10, 2, 8, 14);
        lost(x, 9, 3, 15, 1, 11, 11);
        lost(x, 0, 0, 1, 0, 0, 0);
        lost(x, 0, 1, 0, 0, 0, 0);
        lost(x, 0, 4, 9999, 0, 0, 0);
        s.of(31, "(all of them, COME or not):");
        x.set(0, 0, 9);
        lost(x, 0, 2, 12, 1, 9, 9);
        s.of(31, "what 0 how many,");
        s.is("five of ten", 252, ten.lost(0, 5, 495, 0));
        s.is("one of ten", 10, ten.lost(0, 1, 99, 0));
        s.is("none of ten", 1, ten.lost(0, 0, 0, 0));
        s.of(31, "1 CARTS (bits) in all of them (0: there are none),");
        s.is("in all of 252", 0, ten.lost(0, 5, 495, 1));
        s.is("in the one", 1023, ten.lost(0, 10, 990, 1));
        s.is("in both of two", 8, x.lost(2, 2, 10, 1));
        s.is("there are no sets", 0, ten.lost(0, 10, 991, 1));
        s.of(31, "2 in any.");
        s.is("in any of 252", 1023, ten.lost(0, 5, 495, 2));
        s.is("in either", 15, x.lost(0, 2, 8, 2));
        s.is("there are no sets", 0, ten.lost(0, 10, 991, 2));
        s.of(Sentences.TERMS, "lost(): with n 0 and weight 0 there is one set, of none.");
        lost(new WeighedGate(), 0, 0, 0, 1, 0, 0);
        lost(ten, 9, 0, 0, 1, 0, 0);
        lost(ten, 9, 0, 1, 0, 0, 0);
    }

    private void promise31Refused() {
        WeighedGate x = four();
        s.of(31, "-5: no such HOUR;");
        s.each("lost(h, 0, 0, 0)", -5, h -> x.lost(h, 0, 0, 0), Gates.LEAST, -1, 10, Gates.MOST);
        s.each("ahead of -7", -5, h -> x.lost(h, 11, 10000, 3), -1, 10);
        s.of(31, "-7: the others.");
        s.each("n", -7, n -> x.lost(0, n, 0, 0), Gates.LEAST, -1, 11, Gates.MOST);
        s.each("weight", -7, weight -> x.lost(0, 0, weight, 0), Gates.LEAST, -1, 10000, Gates.MOST);
        s.each("what", -7, what -> x.lost(0, 0, 0, what), Gates.LEAST, -1, 3, Gates.MOST);
        s.is("the last hour, the most", 0, x.lost(9, 10, 9999, 2));
    }
}
