/** Promises 36 to 40: sheets, cells, copies, carts by a sheet, what lies at a place. */
final class HostTest {
    private final Due due = new Due();

    public static void main(String[] args) {
        HostTest test = new HostTest();
        test.sheet();
        test.cell();
        test.copy();
        test.copyOverItself();
        test.cartsBy();
        test.cartsLeftOut();
        test.cartsByRefusals();
        test.taken();
        test.due.end();
    }

    private void sheet() {
        WeighedGate x = new WeighedGate();
        due.is("sheet below", WeighedGate.BAD, x.sheet(-1, 0, 1));
        due.is("sheet above", WeighedGate.BAD, x.sheet(4, 0, 1));
        due.is("sort below", WeighedGate.BAD, x.sheet(0, -2, 1));
        due.is("sort above", WeighedGate.BAD, x.sheet(0, 3, 1));
        due.is("n above", WeighedGate.BAD, x.sheet(0, 0, 41));
        due.is("n below", -14, x.sheet(0, 0, -1));
        due.is("sheet ahead of n", WeighedGate.BAD, x.sheet(4, 0, -1));
        due.is("sort ahead of n", WeighedGate.BAD, x.sheet(0, 3, -1));
        due.is("sheet ahead of missing", WeighedGate.BAD, x.sheet(4, -1, 0));
        due.is("nothing came", -11, x.cell(0, 0, 0));
        due.is("the largest", 1, x.sheet(0, 2, 40));
        due.is("its last place", 1, x.cell(0, 39, 7));
        due.is("behind it", -12, x.cell(0, 40, 7));
        due.is("refused", WeighedGate.BAD, x.sheet(0, 2, 41));
        due.is("refused", -14, x.sheet(0, 2, -5));
        due.is("still there", 1, x.cell(0, 39, 7));
        due.is("an empty one", 1, x.sheet(3, 1, 0));
        due.is("without places", -12, x.cell(3, 0, 0));
        due.is("missing, n below", 1, x.sheet(3, -1, -1));
        due.is("nothing there", -11, x.cell(3, 0, 0));
        due.is("missing, n above", 1, x.sheet(3, -1, 41));
        x.sheet(1, 2, 2);
        x.cell(1, 0, 3);
        x.cell(1, 1, 4);
        due.is("a row of two", 0, x.judge(1));
        x.sheet(1, 2, 0);
        x.sheet(1, 2, 5);
        x.cell(1, 2, 1);
        due.is("all 0 again but for one", 1, x.cartsBy(1, 2, 0, 1));
        int[] told = {0, 0, 0, 1, 0, 0};
        for (int what = 0; what < 6; what++) {
            due.is("cart of 0s, " + what, told[what], x.cartTold(0, what));
        }
    }

    /** What a cell of a sort holds of v, as the weight of a cart by it (1 .. 99), else -2. */
    private int held(int sort, int v) {
        WeighedGate x = new WeighedGate();
        x.sheet(0, sort, 5);
        x.cell(0, 2, v);
        return x.cartsBy(0, sort, 0, 1) == 1 ? x.cartTold(0, 3) : -2;
    }

    private void cell() {
        WeighedGate x = new WeighedGate();
        due.is("sheet below", WeighedGate.BAD, x.cell(-1, 0, 1));
        due.is("sheet above", WeighedGate.BAD, x.cell(4, 0, 1));
        due.is("missing", -11, x.cell(2, 0, 1));
        due.is("missing ahead of the place", -11, x.cell(2, -1, 1));
        x.sheet(2, 0, 3);
        due.is("place below", -12, x.cell(2, -1, 1));
        due.is("place above", -12, x.cell(2, 3, 1));
        due.is("place far above", -12, x.cell(2, 1 << 31, 1));
        due.is("first", 1, x.cell(2, 0, 1));
        due.is("last", 1, x.cell(2, 2, -1));
        due.is("a byte", 44, held(0, 300));
        due.is("a byte of -128", -2, held(0, 128));
        due.is("a byte of 127", -2, held(0, 127));
        due.is("a byte of -157", 99, held(0, -157));
        due.is("a short", 5, held(1, 65541));
        due.is("a short of 261", -2, held(1, 261));
        due.is("a short below", 7, held(1, -65529));
        due.is("an int", -2, held(2, 65541));
        due.is("an int", 99, held(2, 99));
        WeighedGate y = new WeighedGate();
        y.cart(1, 0, 5, 5, 0);
        y.cart(0, 0, 5, 5, 0);
        for (int sort = 0; sort < 3; sort++) {
            y.sheet(0, sort, 2);
            y.cell(0, 1, 3 - 256);
            due.is("3 with its sign, sort " + sort, sort == 0 ? -1 : 0, y.judge(0));
            y.cell(0, 1, 3 - 65536);
            due.is("3 with its sign, sort " + sort, sort == 2 ? 0 : -1, y.judge(0));
            y.cell(0, 1, 3);
            y.cell(0, 0, 255);
            due.is("255 as an hour, sort " + sort, 0, y.judge(0));
        }
    }

    /** What a sheet of six ints holds, each 0 .. 9, as one number. */
    private static int sixOf(WeighedGate x, int s) {
        int six = 0;
        for (int i = 0; i < 6; i++) {
            WeighedGate y = x;
            y.sheet(3, 2, 5);
            y.copy(s, i, 3, 3, 1);
            y.cell(3, 2, 1);
            y.image();
            y.cartsBy(3, 2, 0, 1);
            six = 10 * six + y.cartTold(0, 4);
            y.back();
        }
        return six;
    }

    private void copy() {
        WeighedGate x = new WeighedGate();
        due.is("sheet below", WeighedGate.BAD, x.copy(-1, 0, 0, 0, 0));
        due.is("sheet above", WeighedGate.BAD, x.copy(4, 0, 0, 0, 0));
        due.is("other below", WeighedGate.BAD, x.copy(0, 0, -1, 0, 0));
        due.is("other above", WeighedGate.BAD, x.copy(0, 0, 4, 0, 0));
        due.is("both missing", -11, x.copy(0, 0, 1, 0, 0));
        Due.tell(x, 0, 1, 2, 3, 4, 5, 6);
        due.is("other missing", -11, x.copy(0, 0, 1, 0, 0));
        due.is("first missing", -11, x.copy(1, 0, 0, 0, 0));
        x.sheet(1, 1, 6);
        due.is("unlike", -13, x.copy(0, 0, 1, 0, 0));
        due.is("unlike ahead of the place", -13, x.copy(0, 9, 1, 0, 9));
        due.is("missing ahead of unlike", -11, x.copy(2, 9, 1, 0, 9));
        Due.tell(x, 1, 0, 0, 0, 0, 0, 0);
        due.is("n below", -12, x.copy(0, 0, 1, 0, -1));
        due.is("i below", -12, x.copy(0, -1, 1, 0, 1));
        due.is("j below", -12, x.copy(0, 0, 1, -1, 1));
        due.is("i below, none", -12, x.copy(0, -1, 1, 0, 0));
        due.is("j below, none", -12, x.copy(0, 0, 1, -1, 0));
        due.is("i above, none", -12, x.copy(0, 7, 1, 0, 0));
        due.is("behind the first", -12, x.copy(0, 5, 1, 0, 2));
        due.is("behind the other", -12, x.copy(0, 0, 1, 5, 2));
        due.is("far behind", -12, x.copy(0, 2147483647, 1, 2147483647, 2147483647));
        due.is("far more", -12, x.copy(0, 3, 1, 0, 2147483647));
        due.is("none, at the end", 0, x.copy(0, 6, 1, 6, 0));
        due.is("nothing came", 0, sixOf(x, 1));
        due.is("three", 3, x.copy(0, 1, 1, 3, 3));
        due.is("three came", 234, sixOf(x, 1));
        due.is("the first stays", 123456, sixOf(x, 0));
        due.is("all", 6, x.copy(0, 0, 1, 0, 6));
        due.is("all came", 123456, sixOf(x, 1));
    }

    private void copyOverItself() {
        WeighedGate x = new WeighedGate();
        Due.tell(x, 0, 1, 2, 3, 4, 5, 6);
        due.is("onwards", 4, x.copy(0, 0, 0, 2, 4));
        due.is("as they were", 121234, sixOf(x, 0));
        Due.tell(x, 0, 1, 2, 3, 4, 5, 6);
        due.is("back", 5, x.copy(0, 1, 0, 0, 5));
        due.is("as they were", 234566, sixOf(x, 0));
    }

    private void cartsBy() {
        WeighedGate x = new WeighedGate();
        Due.tell(x, 2, 9, 1, 3, 11, 22, 4, 0, 5, 33, 44, 5, 7);
        due.is("two", 2, x.cartsBy(2, 2, 1, 2));
        int[][] told = {{0, 1, 3, 11, 22, 4}, {0, 0, 5, 33, 44, 5}};
        for (int c = 0; c < 2; c++) {
            for (int what = 0; what < 6; what++) {
                due.is("cart " + c + " told " + what, told[c][what], x.cartTold(c, what));
            }
        }
        due.is("one behind the first", 1, x.cartsBy(2, 2, 6, 1));
        due.is("as the second", 33, x.cartTold(2, 3));
        due.is("none", 0, x.cartsBy(2, 2, 0, 0));
        due.is("three are", 3, x.count(4));
        for (int sort = 0; sort < 2; sort++) {
            WeighedGate y = new WeighedGate();
            y.sheet(1, sort, 40);
            for (int c = 0; c < 8; c++) {
                y.cell(1, 5 * c + 2, c + 1);
            }
            due.is("eight", 8, y.cartsBy(1, sort, 0, 8));
            due.is("the eighth", 8, y.cartTold(7, 3));
        }
    }

    private void cartsLeftOut() {
        WeighedGate x = new WeighedGate();
        Due.tell(x, 0, 0, 0, 5, 0, 0, 0, 0, 0, 0, 0, 1, 0, 6, 0, 0, 2, 0, 6, 0, 0, 0, 0, 7, 0, 0);
        due.is("three of five", 3, x.cartsBy(0, 2, 0, 5));
        due.is("the second", 6, x.cartTold(1, 3));
        due.is("the third", 7, x.cartTold(2, 3));
        due.is("what stood ahead came", -12, x.cartsBy(0, 2, 11, 3));
        due.is("none but that", 3, x.count(4));
        due.is("what stood ahead came", -12, x.cartsBy(0, 2, 10, 4));
        due.is("two more", 5, x.count(4));
        due.is("what stood ahead came", -12, x.cartsBy(0, 2, 20, 2));
        due.is("one more", 6, x.count(4));
        due.is("a part of five does not come", -12, x.cartsBy(0, 2, 22, 1));
        due.is("no more", 6, x.count(4));
        due.is("all five but two", 3, x.cartsBy(0, 2, 0, 5));
        due.is("one has room", 1, x.cartsBy(0, 2, 0, 5));
        due.is("ten are", 10, x.count(4));
        due.is("none has room", 0, x.cartsBy(0, 2, 0, 5));
    }

    private void cartsByRefusals() {
        WeighedGate x = new WeighedGate();
        x.sheet(0, 1, 10);
        due.is("sheet below", WeighedGate.BAD, x.cartsBy(-1, 1, 0, 1));
        due.is("sheet above", WeighedGate.BAD, x.cartsBy(4, 1, 0, 1));
        due.is("sort below", WeighedGate.BAD, x.cartsBy(0, -1, 0, 1));
        due.is("sort above", WeighedGate.BAD, x.cartsBy(0, 3, 0, 1));
        due.is("n below", WeighedGate.BAD, x.cartsBy(0, 1, 0, -1));
        due.is("n above", WeighedGate.BAD, x.cartsBy(0, 1, 0, 9));
        due.is("n ahead of missing", WeighedGate.BAD, x.cartsBy(1, 1, 0, 9));
        due.is("missing", -11, x.cartsBy(1, 1, 0, 1));
        due.is("unlike", -13, x.cartsBy(0, 2, 0, 1));
        due.is("unlike ahead of the place", -13, x.cartsBy(0, 2, 77, 1));
        due.is("place below", -12, x.cartsBy(0, 1, -1, 1));
        due.is("place above", -12, x.cartsBy(0, 1, 10, 1));
        due.is("place near the end", -12, x.cartsBy(0, 1, 6, 1));
        due.is("place far above", -12, x.cartsBy(0, 1, 2147483647, 8));
        due.is("place far below", -12, x.cartsBy(0, 1, 1 << 31, 8));
        due.is("none came", 0, x.count(4));
    }

    private void taken() {
        WeighedGate x = new WeighedGate();
        x.stone(44);
        x.stone(55);
        int[][] kinds = {
            {1, 0, 0, 0, 0, 0}, {1, 1, 0, 0, 0, 0}, {1, 0, 1, 0, 0, 0},
            {1, 1, 0, 1, 0, 0}, {1, 0, 0, 0, 1, 0}, {1, 0, 1, 0, 0, 1},
        };
        for (int kind = 0; kind < 6; kind++) {
            x.cart(0, kind, 1, 1, 1);
        }
        for (int c = 0; c < 6; c++) {
            for (int kind = 0; kind < 6; kind++) {
                due.is("cart " + c + " for " + kind, kinds[c][kind] == 1 ? c : -13, x.taken(5 + c, kind));
            }
            due.is("cart " + c + " for a stone", -13, x.taken(5 + c, 6));
        }
        due.is("a stone", 44, x.taken(0, 6));
        due.is("a stone", 55, x.taken(1, 6));
        due.is("a stone for a cart", -13, x.taken(1, 0));
        due.is("no stone", -11, x.taken(2, 6));
        due.is("no stone", -11, x.taken(4, 0));
        due.is("no cart", -11, x.taken(11, 0));
        due.is("no cart", -11, x.taken(14, 6));
        due.is("place below", -12, x.taken(-1, 0));
        due.is("place above", -12, x.taken(15, 0));
        due.is("kind below", WeighedGate.BAD, x.taken(0, -1));
        due.is("kind above", WeighedGate.BAD, x.taken(0, 7));
        due.is("kind ahead of the place", WeighedGate.BAD, x.taken(15, 7));
    }
}
