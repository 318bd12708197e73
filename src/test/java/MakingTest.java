/** Promises 15 to 18: which differences stones make, the stone to own, a false one. */
final class MakingTest {
    private final Due due = new Due();

    public static void main(String[] args) {
        MakingTest test = new MakingTest();
        test.make();
        test.makings();
        test.own();
        test.falsely();
        test.due.end();
    }

    private void make() {
        WeighedGate x = Gates.withStones(1, 3, 9);
        int[] fewest = {0, 1, 2, 1, 2, 3, 2, 3, 2, 1, 2, 3, 2, 3, -1};
        for (int d = 0; d < fewest.length; d++) {
            due.is("make " + d, fewest[d], x.make(d));
        }
        due.is("the greatest", -1, x.make(999));
        due.is("below", WeighedGate.BAD, x.make(-1));
        due.is("above", WeighedGate.BAD, x.make(1000));
        WeighedGate two = Gates.withStones(5, 5);
        due.is("none for 0", 0, two.make(0));
        due.is("one of like ones", 1, two.make(5));
        due.is("both", 2, two.make(10));
        due.is("none by none", -1, Gates.withStones().make(1));
        due.is("0 by none", 0, Gates.withStones().make(0));
        WeighedGate five = Gates.withStones(99, 99, 99, 99, 99);
        due.is("all in one pan", 5, five.make(495));
        due.is("three in one pan", 3, five.make(297));
        due.is("nearly", -1, five.make(494));
        due.is("the fewer ones", 1, Gates.withStones(2, 3, 5).make(5));
        due.is("two of three", 2, Gates.withStones(2, 3, 9).make(5));
    }

    private void makings() {
        WeighedGate x = Gates.withStones(1, 3, 9);
        due.is("all", 13, x.makings(13, 0));
        due.is("all", -1, x.makings(13, 1));
        due.is("all but one", 13, x.makings(14, 0));
        due.is("the one", 14, x.makings(14, 1));
        due.is("all of 999", 13, x.makings(999, 0));
        due.is("of none", 0, x.makings(0, 0));
        due.is("of none", -1, x.makings(0, 1));
        WeighedGate y = Gates.withStones(1, 5);
        due.is("1, 4, 5, 6", 4, y.makings(999, 0));
        due.is("1, 4", 2, y.makings(4, 0));
        due.is("not 2", 2, y.makings(4, 1));
        due.is("not 1", 1, Gates.withStones().makings(1, 1));
        due.is("n below", WeighedGate.BAD, x.makings(-1, 0));
        due.is("n above", WeighedGate.BAD, x.makings(1000, 0));
        due.is("what below", WeighedGate.BAD, x.makings(1, -1));
        due.is("what above", WeighedGate.BAD, x.makings(1, 2));
    }

    private void own() {
        due.is("3 beside 1", 3, Gates.withStones(1).own(4, 0));
        due.is("all four", 4, Gates.withStones(1).own(4, 1));
        due.is("3 beside 1, the least", 3, Gates.withStones(1).own(99, 0));
        due.is("no more than four", 4, Gates.withStones(1).own(99, 1));
        due.is("9 beside 1, 3", 9, Gates.withStones(1, 3).own(99, 0));
        due.is("thirteen", 13, Gates.withStones(1, 3).own(99, 1));
        due.is("the first beside none", 1, Gates.withStones().own(10, 0));
        due.is("one", 1, Gates.withStones().own(10, 1));
        due.is("of none", 1, Gates.withStones(4).own(0, 0));
        due.is("of none", 0, Gates.withStones(4).own(0, 1));
        due.is("of 1 the least", 1, Gates.withStones(5).own(1, 0));
        due.is("4 or 6 would do as well", 1, Gates.withStones(5).own(1, 1));
        due.is("the fifth one, 19 to 99 beside 1 to 40", 59, Gates.withStones(1, 3, 9, 27).own(99, 0));
        due.is("99", 99, Gates.withStones(1, 3, 9, 27).own(99, 1));
        due.is("a heavy one", 98, Gates.withStones(4, 81, 69, 80).own(34, 0));
        due.is("28 of 34", 28, Gates.withStones(4, 81, 69, 80).own(34, 1));
        due.is("the heaviest", 99, Gates.withStones(1, 80, 96, 92).own(22, 0));
        due.is("21 of 22", 21, Gates.withStones(1, 80, 96, 92).own(22, 1));
        due.is("100 would be better, but is none", 12, Gates.withStones(88, 73, 82, 87).own(29, 0));
        due.is("22 of 29", 22, Gates.withStones(88, 73, 82, 87).own(29, 1));
        due.is("1, and 9 as what is left of 10", 2, Gates.withStones(10).own(9, 1));
        due.is("1, and 9 as what is left of 10", 1, Gates.withStones(10).own(9, 0));
        WeighedGate x = Gates.withStones(1, 3, 9, 27);
        due.is("four stones stay", 4, x.count(3));
        due.is("n below", WeighedGate.BAD, x.own(-1, 0));
        due.is("n above", WeighedGate.BAD, x.own(100, 0));
        due.is("what below", WeighedGate.BAD, x.own(9, -1));
        due.is("what above", WeighedGate.BAD, x.own(9, 2));
        x.stone(2);
        due.is("five", WeighedGate.STATE, x.own(9, 0));
        due.is("bad ahead of five", WeighedGate.BAD, x.own(100, 0));
        due.is("bad ahead of five", WeighedGate.BAD, x.own(9, 2));
    }

    private void falsely() {
        WeighedGate x = Gates.withStones(1, 5);
        due.is("it can be made", 0, x.falsely(5));
        due.is("0 can be made", 0, x.falsely(0));
        due.is("by a heavier first one", 1, x.falsely(3));
        due.is("by a heavier first one", 1, x.falsely(2));
        due.is("by either", 3, x.falsely(7));
        due.is("by none", 0, x.falsely(8));
        due.is("below", WeighedGate.BAD, x.falsely(-1));
        due.is("above", WeighedGate.BAD, x.falsely(1000));
        due.is("by none of none", 0, Gates.withStones().falsely(1));
        due.is("by the second one alone", 2, Gates.withStones(20, 5).falsely(6));
        due.is("by the third one alone", 4, Gates.withStones(40, 20, 5).falsely(6));
        due.is("a stone of 100", 1, Gates.withStones(99).falsely(100));
        due.is("either of 99 and 1", 3, Gates.withStones(99, 1).falsely(101));
        due.is("any of five", 31, Gates.withStones(99, 99, 99, 99, 99).falsely(496));
        due.is("1 between like ones", 3, Gates.withStones(7, 7).falsely(1));
        due.is("no two at once", 0, Gates.withStones(7, 7).falsely(16));
        due.is("nothing is heavier then", -1, x.make(7));
        due.is("the stones stay", 5, x.stoneTold(1));
    }
}
