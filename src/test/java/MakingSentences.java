/** Promises 15 to 18 and the term of differences, sentence by sentence: what stones make. */
final class MakingSentences {
    private static final int BAD = -2;
    private static final int STATE = -3;

    private final Sentences s;

    MakingSentences(Sentences s) {
        this.s = s;
    }

    void ask() {
        promise15();
        promise16();
        promise17();
        promise17Refused();
        promise18();
        terms();
    }

    private void promise15() {
        s.of(15, "The fewest STONES by which a DIFFERENCE is MADE;");
        WeighedGate x = Gates.withStones(2, 3, 5, 9);
        s.row("make", x::make, 0, 2, 1, 1, 2, 1, 2, 2, 2, 1, 3, 2, 2, 4, 2, 4, 3, 3, -1, 4, -1);
        WeighedGate five = Gates.withStones(99, 99, 99, 99, 99);
        s.each("five of 99", 5, five::make, 495);
        s.each("four of 99", 4, five::make, 396);
        s.each("none", 0, five::make, 0);
        s.each("none of none", 0, new WeighedGate()::make, 0);
        s.of(15, "-1: it can't be.");
        s.each("make", -1, five::make, 1, 98, 100, 494, 496, 998, 999);
        s.each("of none", -1, new WeighedGate()::make, 1, 999);
        s.of(15, "BAD.");
        s.each("make", BAD, x::make, Gates.LEAST, -1, 1000, Gates.MOST);
    }

    private void promise16() {
        s.of(16, "Of DIFFERENCES 1 .. n (n 0 .. 999)");
        WeighedGate x = Gates.withStones(1, 3, 9);
        s.is("of none", 0, x.makings(0, 0));
        s.is("1 .. 1", 1, x.makings(1, 0));
        s.is("1 .. 13", 13, x.makings(13, 0));
        s.is("1 .. 999", 13, x.makings(999, 0));
        s.of(16, "what 0 how many can be MADE,");
        WeighedGate y = Gates.withStones(1, 5);
        s.row("makings(n, 0)", n -> y.makings(n, 0), 0, 1, 1, 1, 2, 3, 4, 4);
        s.is("of no stones", 0, new WeighedGate().makings(999, 0));
        s.of(16, "1 the least that can't");
        s.row("makings(n, 1)", n -> y.makings(n, 1), -1, -1, 2, 2, 2, 2, 2, 2);
        s.is("of no stones", 1, new WeighedGate().makings(1, 1));
        s.is("14 of 999", 14, x.makings(999, 1));
        s.is("the last one", 14, x.makings(14, 1));
        s.of(16, "(-1: all can).");
        s.is("13", -1, x.makings(13, 1));
        s.is("0", -1, new WeighedGate().makings(0, 1));
        WeighedGate five = Gates.withStones(1, 3, 9, 27, 81);
        s.is("121", -1, five.makings(121, 1));
        s.is("122", 122, five.makings(122, 1));
        s.of(16, "BAD.");
        s.each("n", BAD, n -> x.makings(n, 0), Gates.LEAST, -1, 1000, Gates.MOST);
        s.each("n, ahead of an answer of -1", BAD, n -> x.makings(n, 1), -1, 1000);
        s.each("what", BAD, what -> x.makings(1, what), Gates.LEAST, -1, 2, Gates.MOST);
    }

    private void promise17() {
        s.of(17, "The weight of one STONE more by which most DIFFERENCES 1 .. n (n 0 .. 99) could be MADE,");
        s.is("9 beside 1, 3", 9, Gates.withStones(1, 3).own(99, 0));
        s.is("59 beside four", 59, Gates.withStones(1, 3, 9, 27).own(99, 0));
        s.is("99 beside four", 99, Gates.withStones(1, 80, 96, 92).own(22, 0));
        s.is("100 would be better, but is none", 12, Gates.withStones(88, 73, 82, 87).own(29, 0));
        WeighedGate x = Gates.withStones(1);
        s.is("no stone comes", 3, x.own(4, 0));
        s.is("one stays", 1, x.count(3));
        s.is("3 isn't made", -1, x.make(3));
        s.of(17, "of like ones the least (what 0),");
        s.is("of none to make", 1, Gates.withStones(4).own(0, 0));
        s.is("of none, by none", 1, new WeighedGate().own(0, 0));
        s.is("any makes one", 1, new WeighedGate().own(99, 0));
        s.is("2, 3 or 4 make 1, too", 1, Gates.withStones(3).own(1, 0));
        s.is("2 or 3 beside 1", 2, Gates.withStones(1).own(3, 0));
        s.is("all are made as it is", 1, Gates.withStones(1, 3, 9, 27).own(40, 0));
        s.of(17, "how many (1).");
        s.is("of none", 0, Gates.withStones(4).own(0, 1));
        s.is("one by one", 1, new WeighedGate().own(99, 1));
        s.is("thirteen", 13, Gates.withStones(1, 3).own(99, 1));
        s.is("all", 99, Gates.withStones(1, 3, 9, 27).own(99, 1));
        s.is("1 .. 98", 98, Gates.withStones(1, 3, 9, 27).own(98, 1));
    }

    private void promise17Refused() {
        WeighedGate x = Gates.withStones(1, 3, 9, 27);
        s.of(17, "BAD;");
        s.each("n", BAD, n -> x.own(n, 0), Gates.LEAST, -1, 100, Gates.MOST);
        s.each("what", BAD, what -> x.own(9, what), Gates.LEAST, -1, 2, Gates.MOST);
        x.stone(81);
        s.each("n of five", BAD, n -> x.own(n, 0), -1, 100);
        s.each("what of five", BAD, what -> x.own(9, what), -1, 2);
        s.of(17, "STATE: there are 5 STONES.");
        s.each("n, 0", STATE, n -> x.own(n, 0), 0, 50, 99);
        s.each("n, 1", STATE, n -> x.own(n, 1), 0, 99);
        x.sell();
        s.is("four", 40, x.own(40, 1));
    }

    private void promise18() {
        WeighedGate x = Gates.withStones(1, 5);
        s.of(18, "If a DIFFERENCE can't be MADE: STONES (bits) by each of which, were it 1 heavier, it could;");
        s.row("falsely", x::falsely, 0, 0, 1, 1, 0, 0, 0, 3, 0);
        s.is("each of five of 99", 31, Gates.withStones(99, 99, 99, 99, 99).falsely(496));
        s.is("no two at once", 0, Gates.withStones(7, 7).falsely(16));
        s.is("none of none", 0, new WeighedGate().falsely(1));
        s.is("the last alone", 4, Gates.withStones(40, 20, 5).falsely(6));
        s.is("the first less the second, or the second alone", 3, Gates.withStones(40, 20, 5).falsely(21));
        WeighedGate sold = Gates.withStones(1, 5, 20);
        sold.sell();
        s.is("20 less 5, but 20 was sold", 0, sold.falsely(15));
        s.of(18, "0: it can.");
        s.each("falsely", 0, x::falsely, 0, 1, 4, 5, 6);
        s.is("though a heavier one would make it, too", 0, Gates.withStones(5, 6).falsely(6));
        s.of(18, "BAD.");
        s.each("falsely", BAD, x::falsely, Gates.LEAST, -1, 1000, Gates.MOST);
        s.is("the most", 0, x.falsely(999));
        s.of(Sentences.TERMS, "falsely(): a STONE may be 100 then.");
        s.is("100 of 99", 1, Gates.withStones(99).falsely(100));
        s.is("101 of 99, 1", 3, Gates.withStones(99, 1).falsely(101));
        WeighedGate y = Gates.withStones(99);
        y.falsely(100);
        s.is("it is 99 then", 99, y.stoneTold(0));
        s.is("100 isn't made then", -1, y.make(100));
    }

    private void terms() {
        s.of(Sentences.TERMS, "A DIFFERENCE (0 .. 999) is MADE by STONES, each in one pan, in the other one, or in none, "
            + "if theirs in the two pans are that far from each other.");
        WeighedGate x = Gates.withStones(10, 4, 1);
        s.each("all in one pan", 3, x::make, 15);
        s.each("one in the other pan", 3, x::make, 13, 7);
        s.each("one in none", 2, x::make, 14, 11, 9, 6, 5, 3);
        s.each("but one in none", 1, x::make, 10, 4, 1);
        s.each("the same in both pans", 0, x::make, 0);
        s.each("no stone twice", -1, x::make, 2, 8, 20);
        s.each("no difference", BAD, x::make, -1, 1000);
        s.is("the most", -1, x.make(999));
        s.of(Sentences.TERMS, "STONES are numbered from 0 on, 5 at most: a weight (1 .. 99).");
        WeighedGate y = new WeighedGate();
        s.row("99, 1, 99, 1, 99, 1 by turns", k -> y.stone(k % 2 == 0 ? 99 : 1), 0, 1, 2, 3, 4, -4);
        s.each("no such weight", BAD, y::stone, 0, 100);
    }
}
