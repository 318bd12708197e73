/** Promises 28 to 31: weighings judged, laws that fit, the film of a day, who must have been weighed. */
final class ToldTest {
    private final Due due = new Due();

    public static void main(String[] args) {
        ToldTest test = new ToldTest();
        test.judge();
        test.judgeSorts();
        test.judgeRefusals();
        test.laws();
        test.film();
        test.lost();
        test.lostEdges();
        test.due.end();
    }

    /** Carts 0, 1 inward, 2, 3 not, all of weight 5; the last comes at hour 3. */
    private static WeighedGate four() {
        WeighedGate x = new WeighedGate();
        x.cart(1, 0, 5, 30, 0);
        x.cart(1, 0, 5, 20, 0);
        x.cart(0, 0, 5, 10, 0);
        x.cart(0, 0, 5, 1, 0);
        x.set(3, 0, 3);
        return x;
    }

    private void judged(int row, int... numbers) {
        WeighedGate x = four();
        Due.tell(x, 2, numbers);
        due.is("judge of " + java.util.Arrays.toString(numbers), row, x.judge(2));
    }

    private void judge() {
        judged(-1);
        judged(-1, 0, 5);
        judged(-1, 2, 6, 3, 9);
        judged(-1, 3, 15);
        judged(-1, 9, 15);
        judged(0, -1, 5);
        judged(0, 10, 5);
        judged(0, 0, 0);
        judged(0, 0, 16);
        judged(0, 0, 21);
        judged(0, 0, -1);
        judged(0, 2, 9);
        judged(0, 3, 3);
        judged(0, 3, 7);
        judged(1, 3, 5, 3, 10);
        judged(1, 4, 5, 3, 10);
        judged(1, 3, 5, 4, 9);
        judged(1, 3, 5, 4, 0);
        judged(1, 3, 5, 10, 10);
        judged(-1, 3, 5, 4, 10);
        judged(2, 3, 5, 4, 10, 5, 5);
        judged(0, 3, 1, 2, 0);
        WeighedGate x = four();
        Due.read(x, "may hour = 4;fine 99;toll 99;");
        Due.tell(x, 0, 3, 5, 4, 10);
        due.is("by the first law", -1, x.judge(0));
        x.force(1);
        due.is("by the second law", 0, x.judge(0));
        Due.tell(x, 0, 4, 10);
        due.is("also one that costs", -1, x.judge(0));
    }

    private void judgeSorts() {
        WeighedGate x = four();
        for (int sort = 0; sort < 3; sort++) {
            x.sheet(1, sort, 4);
            x.cell(1, 0, 2);
            x.cell(1, 1, 6);
            x.cell(1, 2, 8);
            x.cell(1, 3, 9);
            due.is("rows of sort " + sort, -1, x.judge(1));
            x.cell(1, 3, 256 + 9);
            due.is("9 of bytes", sort == 0 ? -1 : 1, x.judge(1));
            x.cell(1, 3, 65536 + 9);
            due.is("9 of shorts", sort == 2 ? 1 : -1, x.judge(1));
        }
    }

    private void judgeRefusals() {
        WeighedGate x = four();
        due.is("sheet below", WeighedGate.BAD, x.judge(-1));
        due.is("sheet above", WeighedGate.BAD, x.judge(4));
        due.is("missing", -11, x.judge(0));
        due.is("sheet below", WeighedGate.BAD, x.laws(-1));
        due.is("sheet above", WeighedGate.BAD, x.laws(4));
        due.is("missing", -11, x.laws(3));
        x.sheet(3, 2, 3);
        due.is("odd", WeighedGate.BAD, x.judge(3));
        due.is("odd", WeighedGate.BAD, x.laws(3));
        x.sheet(3, -1, 0);
        due.is("missing again", -11, x.judge(3));
    }

    private void laws() {
        WeighedGate x = four();
        Due.read(x, "may many = 2;fine 0;toll 0;");
        Due.read(x, "may 0;fine 0;toll 0;");
        Due.read(x, "may many = 2 or hour = 9;fine 9;toll 9;");
        Due.read(x, "may many = 2 and hour < 3;fine 0;toll 0;");
        Due.tell(x, 0, 0, 5, 3, 10);
        due.is("one by one", 1 | 2 | 8, x.laws(0));
        x.force(2);
        due.is("the law is not asked", 1 | 2 | 8, x.laws(0));
        due.is("the law stays", 2, x.count(6));
        Due.tell(x, 0, 0, 5);
        due.is("the second one not", 16, x.laws(0));
        Due.tell(x, 0);
        due.is("nothing", 4, x.laws(0));
        Due.tell(x, 0, 0, 5, 3, 10, 4, 0);
        due.is("a row more", 0, x.laws(0));
        Due.tell(x, 0, 3, 10, 0, 5);
        due.is("another order", 0, x.laws(0));
        Due.tell(x, 0, 0, 5, 4, 10);
        due.is("another hour", 0, x.laws(0));
        Due.tell(x, 0, 0, 6, 3, 10);
        due.is("another cart", 0, x.laws(0));
        x.sheet(1, 0, 4);
        x.cell(1, 1, 5);
        x.cell(1, 2, 3);
        x.cell(1, 3, 10);
        due.is("of bytes", 1 | 2 | 8, x.laws(1));
        WeighedGate y = new WeighedGate();
        Due.tell(y, 0);
        for (int t = 1; t < 6; t++) {
            Due.read(y, "may 1;fine 0;toll 0;");
        }
        due.is("all six", 63, y.laws(0));
    }

    private void film() {
        WeighedGate x = four();
        x.sheet(1, 0, 3);
        due.is("two", 2, x.film(1));
        int[] cells = {0, 5, 3, 10};
        x.sheet(0, 2, 9);
        due.is("of ints, four", 4, x.copy(1, 0, 0, 0, 4));
        due.is("no more than four", -12, x.copy(1, 0, 0, 0, 5));
        due.is("its own rows", -1, x.judge(1));
        due.is("its own law", 1, x.laws(1));
        for (int i = 0; i < 4; i++) {
            int found = -1;
            for (int v = 0; v < 16 && found < 0; v++) {
                x.sheet(2, 2, 4);
                x.copy(1, 0, 2, 0, 4);
                x.cell(2, i, v);
                found = x.laws(2) == 1 ? v : -1;
            }
            due.is("cell " + i, cells[i], found);
        }
        due.is("sheet below", WeighedGate.BAD, x.film(-1));
        due.is("sheet above", WeighedGate.BAD, x.film(4));
        due.is("a missing one", 2, x.film(3));
        due.is("it is there", 1, x.cell(3, 3, 0));
        due.is("its size", -12, x.cell(3, 4, 0));
        Due.read(x, "may 0;fine 0;toll 0;");
        x.force(1);
        due.is("none", 0, x.film(3));
        due.is("an empty one", -12, x.cell(3, 0, 0));
        due.is("five of ten", 5, filmOfTen());
    }

    private static int filmOfTen() {
        WeighedGate x = new WeighedGate();
        Due.read(x, "may many = 2;fine 0;toll 0;");
        x.force(1);
        for (int c = 0; c < 10; c++) {
            x.cart(c % 2, 0, 5, 9, 0);
        }
        int rows = x.film(0);
        return x.cell(0, 9, 0) == 1 && x.cell(0, 10, 0) == -12 ? rows : -1;
    }

    private void lost() {
        WeighedGate x = new WeighedGate();
        x.cart(1, 0, 5, 0, 0);
        x.cart(0, 0, 3, 0, 0);
        x.cart(1, 2, 1, 0, 1);
        x.cart(0, 0, 7, 0, 0);
        x.set(3, 0, 9);
        int[][] asked = {
            {0, 2, 8, 2, 0, 15}, {0, 2, 12, 1, 9, 9}, {0, 2, 4, 1, 6, 6}, {0, 2, 9, 0, 0, 0}, {2, 2, 10, 2, 8, 14},
            {2, 2, 8, 2, 1, 7}, {0, 3, 9, 1, 7, 7}, {0, 3, 11, 1, 14, 14}, {4, 3, 15, 2, 8 | 2, 8 | 2 | 1 | 4},
            {0, 4, 16, 1, 15, 15}, {0, 5, 16, 0, 0, 0}, {0, 1, 7, 1, 8, 8}, {0, 0, 5, 0, 0, 0}, {0, 1, 0, 0, 0, 0},
        };
        for (int[] row : asked) {
            for (int what = 0; what < 3; what++) {
                due.is("lost(" + row[0] + ", " + row[1] + ", " + row[2] + ", " + what + ")", row[3 + what],
                    x.lost(row[0], row[1], row[2], what));
            }
        }
    }

    private void lostEdges() {
        WeighedGate x = new WeighedGate();
        due.is("one set of none", 1, x.lost(0, 0, 0, 0));
        due.is("none in it", 0, x.lost(0, 0, 0, 1));
        due.is("none in it", 0, x.lost(0, 0, 0, 2));
        x.cart(0, 0, 5, 0, 0);
        due.is("one set of none", 1, x.lost(0, 0, 0, 0));
        due.is("none in it", 0, x.lost(0, 0, 0, 1));
        due.is("none in it", 0, x.lost(0, 0, 0, 2));
        due.is("hour below", -5, x.lost(-1, 0, 0, 0));
        due.is("hour above", -5, x.lost(10, 0, 0, 0));
        due.is("hour ahead", -5, x.lost(10, 11, 0, 0));
        due.is("n below", -7, x.lost(0, -1, 0, 0));
        due.is("n above", -7, x.lost(0, 11, 0, 0));
        due.is("weight below", -7, x.lost(0, 0, -1, 0));
        due.is("weight above", -7, x.lost(0, 0, 10000, 0));
        due.is("what below", -7, x.lost(0, 0, 0, -1));
        due.is("what above", -7, x.lost(0, 0, 0, 3));
        due.is("the most of each", 0, x.lost(9, 10, 9999, 2));
        for (int c = 1; c < 10; c++) {
            x.cart(0, 0, 5, 0, 0);
        }
        due.is("five of ten", 252, x.lost(0, 5, 25, 0));
        due.is("none in all", 0, x.lost(0, 5, 25, 1));
        due.is("all in any", 1023, x.lost(0, 5, 25, 2));
        due.is("all ten", 1, x.lost(0, 10, 50, 0));
        due.is("all ten", 1023, x.lost(0, 10, 50, 1));
    }
}
