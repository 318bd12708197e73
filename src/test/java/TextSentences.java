/** Promises 7 to 10 and the terms of texts, sentence by sentence: the tape, faults, the law, what it says. */
final class TextSentences {
    private static final int BAD = -2;
    private static final int FULL = -4;
    private static final String BEHIND = ";fine 0;toll 0;";

    private final Sentences s;

    TextSentences(Sentences s) {
        this.s = s;
    }

    void ask() {
        promise7();
        promise7Refused();
        promise8();
        promise8BehindFaults();
        promise8Refused();
        promise9();
        promise10();
        promise10Refused();
        tokens();
        grammar();
        reckoning();
        faults();
        openOnes();
        texts();
        names();
    }

    // ---- promise 7

    private void promise7() {
        WeighedGate x = new WeighedGate();
        s.of(7, "The first n (1 .. 5) of five bytes");
        s.is("one of five", 1, x.feed(1, 'm', '?', '?', '?', '?'));
        s.is("two of five", 3, x.feed(2, 'a', 'y', '?', '?', '?'));
        s.is("three of five", 6, x.feed(3, ' ', '1', ';', '?', '?'));
        s.is("four of five", 10, x.feed(4, 'f', 'i', 'n', 'e', '?'));
        s.is("five", 15, x.feed(5, ' ', '4', '2', ';', 't'));
        s.of(7, "come behind THE TAPE's, one by one:");
        Due.write(x, "oll 7;");
        s.is("read as they came", 1, x.text());
        x.force(1);
        s.is("its fine", 42, x.asks(1, 0, 0, 0));
        s.of(7, "(0 .. 255 each)");
        WeighedGate y = new WeighedGate();
        s.is("the edges", 5, y.feed(5, 0, 255, 0, 255, 0));
        s.is("the others", 10, y.feed(5, 255, 0, 255, 0, 255));
        s.is("their text", -100, y.text());
        s.of(7, "how many it has.");
        for (int k = 1; k <= 32; k++) {
            s.is("five by five", 5 * k, y.feed(5, 32, 32, 32, 32, 32));
        }
    }

    private void promise7Refused() {
        WeighedGate x = new WeighedGate();
        s.of(7, "BAD: n,");
        s.each("n", BAD, n -> x.feed(n, 1, 1, 1, 1, 1), Gates.LEAST, -1, 0, 6, Gates.MOST);
        s.is("none came", 0, x.count(7));
        s.of(7, "any of the five;");
        int[] wrong = {Gates.LEAST, -1, 256, Gates.MOST};
        for (int n = 1; n <= 5; n++) {
            int first = n;
            s.each("a of first " + n, BAD, b -> x.feed(first, b, 1, 1, 1, 1), wrong);
            s.each("b of first " + n, BAD, b -> x.feed(first, 1, b, 1, 1, 1), wrong);
            s.each("c of first " + n, BAD, b -> x.feed(first, 1, 1, b, 1, 1), wrong);
            s.each("d of first " + n, BAD, b -> x.feed(first, 1, 1, 1, b, 1), wrong);
            s.each("e of first " + n, BAD, b -> x.feed(first, 1, 1, 1, 1, b), wrong);
        }
        s.is("none came", 0, x.count(7));
        s.of(7, "FULL: not all of the n have room");
        for (int n = 1; n <= 5; n++) {
            WeighedGate y = new WeighedGate();
            Due.write(y, " ".repeat(161 - n));
            s.is("one too many, n " + n, FULL, y.feed(n, 32, 32, 32, 32, 32));
            s.is("BAD is told ahead, n " + n, BAD, y.feed(n, 32, 32, 32, 32, 256));
            s.is("as many as have room, n " + n, n == 1 ? FULL : 160, y.feed(Math.max(1, n - 1), 32, 32, 32, 32, 32));
        }
        s.of(7, "(none comes).");
        WeighedGate z = new WeighedGate();
        Due.write(z, Gates.FREE + " ".repeat(158 - Gates.FREE.length()));
        s.is("three have no room", FULL, z.feed(3, '?', '?', '?', '?', '?'));
        s.is("count(7)", 158, z.count(7));
        s.is("the text without them", 1, z.text());
    }

    // ---- promise 8

    private void promise8() {
        WeighedGate x = new WeighedGate();
        s.of(8, "THE TAPE, which is empty then");
        Due.read(x, Gates.FREE);
        s.is("count(7)", 0, x.count(7));
        s.is("an empty one", -100, x.text());
        s.is("behind it", 1, x.feed(1, ';', 0, 0, 0, 0));
        s.of(8, "(by a FAULT, too),");
        s.is("a fault", -100, x.text());
        s.is("count(7)", 0, x.count(7));
        s.of(8, "is a TEXT: its number;");
        for (int t = 2; t < 6; t++) {
            s.is("the number", t, Due.read(x, "may 1;fine " + t + ";toll 0;"));
        }
        for (int t = 2; t < 6; t++) {
            x.force(t);
            s.is("each is its own", t, x.asks(1, 0, 0, 0));
        }
        s.of(8, "-100 less the place of its FAULT.");
        WeighedGate y = new WeighedGate();
        s.is("at 0", -100, Due.read(y, "?" + Gates.FREE));
        s.is("at 1", -101, Due.read(y, " ?"));
        s.is("at 159", -259, Due.read(y, " ".repeat(159) + "?"));
        s.is("at 160", -260, Due.read(y, " ".repeat(160)));
        s.is("none came", 1, y.count(5));
        for (int k = 0; k < 2; k++) {
            Due.write(y, "(".repeat(6));
            s.is("six that are open, but no text", -100, y.text());
        }
        s.is("a good one behind faults", 1, Due.read(y, "may (((((1)))));fine 7;toll 8;"));
    }

    /** What a fault left half read, or on the tape, is nothing to the next text. */
    private void promise8BehindFaults() {
        s.of(8, "THE TAPE, which is empty then (by a FAULT, too), is a TEXT:");
        WeighedGate x = new WeighedGate();
        s.is("letters to the end", -100, Due.read(x, "z".repeat(160)));
        s.is("a word", -106, Due.read(x, "may in"));
        s.is("digits", -100, Due.read(x, "9".repeat(10)));
        s.is("a number", -107, Due.read(x, "may 123"));
        WeighedGate y = new WeighedGate();
        s.is("a word at the end of all", -260, Due.read(y, " ".repeat(157) + "may"));
        for (int k = 0; k < 2; k++) {
            s.is("half a text", -258, Due.read(y, "may 1" + "+1".repeat(76) + "+;"));
        }
        s.is("a whole one", 1, Due.read(y, "may 0;fine 1" + "+1".repeat(10) + ";toll 5;"));
        y.force(1);
        s.is("its may", 0, y.asks(0, 0, 0, 0));
        s.is("its fine", 11, y.asks(1, 0, 0, 0));
        s.is("its toll", 5, y.asks(2, 0, 0, 0));
    }

    private void promise8Refused() {
        WeighedGate x = new WeighedGate();
        for (int t = 1; t < 6; t++) {
            Due.read(x, "may 1;fine " + t + ";toll 0;");
        }
        s.of(8, "FULL (ahead of the FAULT;");
        s.is("an empty tape", FULL, x.text());
        Due.write(x, "may ?");
        s.is("a fault", FULL, x.text());
        s.is("six stay", 6, x.count(5));
        s.of(8, "then THE TAPE stays).");
        s.is("count(7)", 5, x.count(7));
        s.is("the next byte comes behind it", 6, x.feed(1, 'x', 0, 0, 0, 0));
        x.force(5);
        s.is("the last text stays", 5, x.asks(1, 0, 0, 0));
        Due.write(x, " ".repeat(154));
        s.is("a tape without room", FULL, x.text());
        s.is("all of it stays", 160, x.count(7));
    }

    // ---- promises 9, 10

    private void promise9() {
        WeighedGate x = new WeighedGate();
        for (int t = 1; t < 4; t++) {
            Due.read(x, "may 1;fine " + t + ";toll 0;");
        }
        s.of(9, "A TEXT is THE LAW:");
        x.force(3);
        s.is("count(6)", 3, x.count(6));
        s.is("its fine", 3, x.asks(1, 0, 0, 0));
        s.of(9, "which was.");
        s.is("to 0", 3, x.force(0));
        s.is("to 1", 0, x.force(1));
        s.is("to the same", 1, x.force(1));
        s.of(9, "BAD.");
        s.each("force", BAD, x::force, Gates.LEAST, -1, 4, 5, 6, Gates.MOST);
        s.is("it stays", 1, x.count(6));
        s.is("of one text alone", BAD, new WeighedGate().force(1));
    }

    private void promise10() {
        s.of(10, "What part 0 may (1, 0),");
        WeighedGate x = Gates.under("may off - 5;fine in;toll out;");
        s.is("7 is allowed", 1, x.asks(0, 0, 99, 0));
        s.is("0 is not", 0, x.asks(0, 0, 50, 0));
        s.is("-5 is", 1, x.asks(0, 0, 0, 0));
        s.of(10, "1 fine, 2 toll says");
        s.is("fine", 12, x.asks(1, 12034, 0, 0));
        s.is("toll", 34, x.asks(2, 12034, 0, 0));
        s.of(10, "(inOut: 1000 times in, and out, 0 .. 999999;");
        WeighedGate y = Gates.under("may in = 999 and out = 999;fine in - 900;toll out - 900;");
        s.is("the most, may", 1, y.asks(0, 999999, 0, 0));
        s.is("999000, may", 0, y.asks(0, 999000, 0, 0));
        s.is("998999, may", 0, y.asks(0, 998999, 0, 0));
        s.is("the most, in", 99, y.asks(1, 999999, 0, 0));
        s.is("950000, in", 50, y.asks(1, 950000, 0, 0));
        s.is("949999, in", 49, y.asks(1, 949999, 0, 0));
        s.is("the most, out", 99, y.asks(2, 999999, 0, 0));
        s.is("1950, out", 50, y.asks(2, 1950, 0, 0));
        s.is("2000, out", 0, y.asks(2, 2000, 0, 0));
        s.is("the least", 0, y.asks(0, 0, 0, 0));
        s.of(10, "offHour: 10 times off, and hour;");
        WeighedGate z = Gates.under("may 1;fine off*10 + hour;toll many*10 + stones;");
        s.each("99", 99, v -> z.asks(1, 0, v, 0), 99);
        s.row("fine", v -> z.asks(1, 0, v, 0), 0, 1, 2, 3, 4, 5, 6, 7, 8, 9, 10, 11);
        s.of(10, "manyStones: 10 times many, and stones, 0 .. 99 both).");
        s.each("99", 99, v -> z.asks(2, 0, 0, v), 99);
        s.row("toll", v -> z.asks(2, 0, 0, v), 0, 1, 2, 3, 4, 5, 6, 7, 8, 9, 10, 11);
    }

    private void promise10Refused() {
        WeighedGate x = new WeighedGate();
        s.of(10, "BAD.");
        s.each("part", BAD, v -> x.asks(v, 0, 0, 0), Gates.LEAST, -1, 3, Gates.MOST);
        s.each("inOut", BAD, v -> x.asks(0, v, 0, 0), Gates.LEAST, -1, 1000000, Gates.MOST);
        s.each("offHour", BAD, v -> x.asks(0, 0, v, 0), Gates.LEAST, -1, 100, Gates.MOST);
        s.each("manyStones", BAD, v -> x.asks(0, 0, 0, v), Gates.LEAST, -1, 100, Gates.MOST);
    }

    // ---- the terms of texts

    private void fault(int place, String text) {
        WeighedGate x = new WeighedGate();
        s.is("the fault of " + text, -100 - place, Due.read(x, text));
    }

    /** The fault of what stands behind may, counted from the text's first byte. */
    private void faultOf(int place, String expression) {
        fault(place, "may " + expression + BEHIND);
    }

    private void good(String expression) {
        s.is("the text of " + expression, 1, Due.read(new WeighedGate(), "may " + expression + BEHIND));
    }

    /** What an expression is, by in 12, out 34, off 5, hour 6, many 7, stones 8. */
    private void says(int value, String expression) {
        WeighedGate x = Gates.under("may " + expression + ";fine " + expression + ";toll 0;");
        s.is(expression, value, x.asks(1, 12034, 56, 78));
        s.is("whether " + expression, value == 0 ? 0 : 1, x.asks(0, 12034, 56, 78));
    }

    private void tokens() {
        s.of(Sentences.TERMS, "A TEXT is read from THE TAPE (160 bytes at most).");
        String longest = "may 1;fine 0;toll 1" + "+1".repeat(70) + ";";
        WeighedGate x = new WeighedGate();
        s.is("bytes", 160, longest.length());
        s.is("the longest", 1, Due.read(x, longest));
        x.force(1);
        s.is("all of it", 71, x.asks(2, 0, 0, 0));
        s.of(Sentences.TERMS, "TOKENS, each as long as can be:");
        faultOf(4, "12345");
        faultOf(4, "inout");
        faultOf(4, "notin");
        fault(0, "mayin" + BEHIND);
        s.of(Sentences.TERMS, "WORDS (as many letters a .. z as stand there),");
        good("1or1");
        good("(in)and(out)");
        faultOf(4, "ina");
        faultOf(4, "inz");
        faultOf(6, "inA");
        faultOf(6, "in`");
        faultOf(6, "in{");
        faultOf(6, "in1");
        s.of(Sentences.TERMS, "NUMBERS (as many digits as stand there; more than 4 are too long),");
        says(0, "0000");
        says(1, "9999 = 9998 + 1");
        faultOf(4, "00000");
        faultOf(4, "10000");
        faultOf(6, "1 10000");
        faultOf(5, "1/");
        faultOf(5, "1:");
        faultOf(5, "1in");
        s.of(Sentences.TERMS, "SIGNS ( ) ; + - * < = ;");
        good("(1)+1-1*1<1");
        good("1=1");
        for (int b = 0; b < 256; b++) {
            if ("();+-*<= \n0123456789".indexOf(b) < 0 && (b < 'a' || b > 'z')) {
                faultOf(5, "1" + (char) b);
            }
        }
        s.of(Sentences.TERMS, "blanks (32, 10) may stand between.");
        s.is("many of them", 1, Due.read(new WeighedGate(), "\n may\n ( \n1 )\n;\nfine 0 ;toll \n 0\n; \n"));
        s.is("none of them", 1, Due.read(new WeighedGate(), "may(1);fine(0);toll(0);"));
        fault(0, "ma y 1" + BEHIND);
        faultOf(6, "1 2");
        faultOf(4, "i n");
        for (int b : new int[] {0, 9, 11, 13, 31, 33, 160}) {
            fault(3, "may" + (char) b + "1" + BEHIND);
        }
    }

    private void grammar() {
        s.of(Sentences.TERMS, "TEXT: may E ; fine E ; toll E ;");
        fault(0, "fine 1;toll 1;");
        fault(6, "may 1;toll 1;fine 1;");
        fault(6, "may 1;may 1;fine 1;toll 1;");
        fault(13, "may 1;fine 1;fine 1;");
        fault(4, "may ;fine 1;toll 1;");
        fault(6, "may 1 fine 1;toll 1;");
        fault(20, "may 1;fine 1;toll 1;;");
        fault(21, "may 1;fine 1;toll 1; may 1;");
        s.of(Sentences.TERMS, "E: AND { or AND }.");
        says(1, "0 or 0 or 7");
        says(1, "1 or 0 and 0");
        says(0, "(1 or 0) and 0");
        faultOf(9, "1 or or 1");
        s.of(Sentences.TERMS, "AND: NOT { and NOT }.");
        says(1, "1 and 2 and not 0");
        says(0, "1 and 2 and 0");
        says(0, "not 0 and 0");
        faultOf(4, "and 1");
        s.of(Sentences.TERMS, "NOT: not NOT, or SUM, perhaps < or = and a SUM.");
        says(1, "not not 7");
        says(1, "not 1 < 0");
        says(1, "not 1 = 0");
        says(1, "1 + 1 < 1 + 2");
        faultOf(9, "in < not 1");
        faultOf(6, "1 not 1");
        s.of(Sentences.TERMS, "SUM: TERM { + or - TERM }.");
        says(5, "10 - 3 - 2");
        says(9, "10 - 3 + 2");
        says(7, "1 + 2 * 3");
        faultOf(4, "+1");
        faultOf(6, "1++1");
        s.of(Sentences.TERMS, "TERM: ONE { * ONE }.");
        says(24, "2 * 3 * 4");
        says(6, "-2 * -3");
        faultOf(4, "*1");
        faultOf(6, "1**1");
        s.of(Sentences.TERMS, "ONE: a NUMBER, a NAME, - ONE, ( E ).");
        says(12, "in");
        says(3, "--3");
        says(1, "(1 or 0)");
        says(3, "5 - -(-2)");
        faultOf(5, "()");
        faultOf(5, "-");
        s.of(Sentences.TERMS, "NAMES: in out off hour many stones.");
        says(12, "in");
        says(34, "out");
        says(5, "off");
        says(6, "hour");
        says(7, "many");
        says(8, "stones");
        faultOf(4, "stone");
        faultOf(4, "hours");
    }

    private void reckoning() {
        s.of(Sentences.TERMS, "An E is an int (32 bits, wrapping): of or, and, not, <, = 1 or 0 (what is not 0 is true).");
        says(0, "4096*4096*256");
        says(1, "4096*4096*128 < 0");
        says(1, "0 < 4096*4096*128 - 1");
        says(1, "-(4096*4096*128) < 0");
        says(1, "4096*4096*128 - 1 + 1 = -4096*4096*128");
        says(1, "7 or 0");
        says(1, "0 or -1");
        says(0, "0 or 0");
        says(1, "2 and 4");
        says(0, "2 and 0");
        says(0, "0 and 2");
        says(0, "not 7");
        says(0, "not -1");
        says(1, "not 0");
        says(1, "-1 < 0");
        says(0, "0 < 0");
        says(0, "1 < 0");
        says(1, "5 = 5");
        says(0, "5 = 4");
        says(3, "(1 < 2) + (3 = 3) + (7 or 9)");
    }

    private void faults() {
        s.of(Sentences.TERMS, "FAULT: the place of the first byte of the first TOKEN that can't stand there");
        faultOf(7, "in out");
        faultOf(7, "in 1234");
        faultOf(5, "1)))");
        faultOf(4, ") ? 12345");
        fault(25, "may 1;fine 0;toll 1 + 1 +;");
        s.of(Sentences.TERMS, "(the text's size, if it ends too early)");
        fault(0, "");
        fault(3, " \n ");
        fault(3, "may");
        fault(5, "may 1");
        fault(8, "may 1 + ");
        fault(6, "may 1;");
        fault(19, "may 1;fine 0;toll 0");
        fault(22, "may 1;fine 0;toll 0 \n ");
        fault(9, "may (((((");
        s.of(Sentences.TERMS, "also of a byte that begins none");
        fault(0, "?");
        faultOf(4, ">1");
        faultOf(8, "1 + " + (char) 255);
        fault(20, Gates.FREE + (char) 0);
        s.of(Sentences.TERMS, "of a WORD that is neither KEY nor NAME");
        fault(0, "mai 1" + BEHIND);
        faultOf(4, "x");
        faultOf(6, "1 nand 1");
        fault(20, Gates.FREE + "end");
        for (String name : new String[] {"in", "out", "off", "hour", "many", "stones", "not"}) {
            misspelt(4, "may ", name, " 1" + BEHIND);
        }
        misspelt(6, "may 1 ", "or", " 1" + BEHIND);
        misspelt(6, "may 1 ", "and", " 1" + BEHIND);
        misspelt(0, "", "may", " 1" + BEHIND);
        misspelt(6, "may 1;", "fine", " 0;toll 0;");
        misspelt(13, "may 1;fine 0;", "toll", " 0;");
        s.of(Sentences.TERMS, "a NUMBER that is too long");
        faultOf(8, "1 + 12345");
        faultOf(4, "9".repeat(40));
        fault(20, Gates.FREE + "12345");
        good("1234");
    }

    /** A word with another first or last letter, without its last one, with one more. */
    private void misspelt(int place, String ahead, String word, String behind) {
        String but = word.substring(0, word.length() - 1);
        for (String other : new String[] {"x" + word.substring(1), but + "x", but, word + "x"}) {
            fault(place, ahead + other + behind);
        }
    }

    private void openOnes() {
        s.of(Sentences.TERMS, "a ( , a not, a - ahead of a ONE while 5 of these are open");
        good("(((((1)))))");
        faultOf(9, "((((((1))))))");
        good("-----1");
        faultOf(9, "------1");
        good("not not not not not 1");
        faultOf(24, "not not not not not not 1");
        good("(((((1 - 1)))))");
        faultOf(9, "(((((-1)))))");
        faultOf(9, "(((((not 1)))))");
        faultOf(9, "-----(1)");
        s.of(Sentences.TERMS, "(a ( till its ) , not and - till what they belong to ends).");
        good("(((((1)))))+(((((1)))))");
        good("-----1 + -----1");
        good("not not not not not 1 and not not not not not 1");
        good("not not not not 1 < -1 and not 1");
        good("not (((-1 * -1)))");
        good("not ((((1)) + ((1)))) or (((((1)))))");
        faultOf(15, "not not ((-((1))))");
        faultOf(28, "not not not not not 1 < -1");
        faultOf(28, "not not not not not 1 + (1)");
        faultOf(28, "not not not not not 1 = (1)");
        s.of(Sentences.TERMS, "A SUM is compared once, also behind not.");
        faultOf(8, "in<1<2");
        faultOf(8, "in=1=2");
        faultOf(8, "in<1=2");
        faultOf(12, "not in<1<2");
        faultOf(16, "not not in=1<2");
        good("(in<1)<2");
        good("not (in<1)=2");
        s.of(Sentences.TERMS, "All three that are open are counted together; a - ends with its ONE, a not with its NOT.");
        faultOf(12, "not ((-((1))))");
        good("not ((-(1)))");
        faultOf(11, "(not(-(-1)))");
        good("(not(-(1)))");
        good("((((-1 - 1 - -1))))");
        faultOf(9, "((((--1))))");
        good("((((not 1 or not 1))))");
        faultOf(12, "((((not not 1))))");
    }

    private void texts() {
        s.of(Sentences.TERMS, "TEXTS are numbered from 0 on, 6 at most;");
        WeighedGate x = new WeighedGate();
        s.is("count(5)", 1, x.count(5));
        for (int t = 1; t < 6; t++) {
            s.is("the number", t, Due.read(x, Gates.FREE));
        }
        s.is("a seventh", FULL, Due.read(x, Gates.FREE));
        s.of(Sentences.TERMS, "TEXT 0, at first, and THE LAW: may 1 ; fine off * 2 ; toll hour ;");
        WeighedGate y = new WeighedGate();
        s.is("count(6)", 0, y.count(6));
        s.is("may", 1, y.asks(0, 0, 0, 0));
        s.row("fine by off", off -> y.asks(1, 0, 10 * off, 0), 0, 2, 4, 6, 8, 10, 12, 14, 16, 18);
        s.row("toll by hour", hour -> y.asks(2, 0, hour, 0), 0, 1, 2, 3, 4, 5, 6, 7, 8, 9);
        s.is("it stays when another is the law", 1, Due.read(y, Gates.FREE));
        y.force(1);
        s.is("another fine", 0, y.asks(1, 0, 99, 0));
        y.force(0);
        s.is("its fine again", 18, y.asks(1, 0, 99, 0));
        s.of(Sentences.TERMS, "(may: whether a WEIGHING is allowed (not 0); fine, toll 0 .. 99, else the bound):");
        String[] values = {"0", "1", "98", "99", "100", "9999", "-1", "-9999", "4096*4096*128", "4096*4096*128-1"};
        int[] bounded = {0, 1, 98, 99, 99, 99, 0, 0, 0, 99};
        for (int i = 0; i < values.length; i++) {
            WeighedGate z = Gates.under("may " + values[i] + ";fine " + values[i] + ";toll " + values[i] + ";");
            s.is("may " + values[i], i == 0 ? 0 : 1, z.asks(0, 0, 0, 0));
            s.is("fine " + values[i], bounded[i], z.asks(1, 0, 0, 0));
            s.is("toll " + values[i], bounded[i], z.asks(2, 0, 0, 0));
        }
    }

    /** What a name is in a real weighing: 10 and 4 in on an arm of 3, 18 out on an arm of 2, a stone of 5, slack 2. */
    private void named(String name, int value) {
        WeighedGate x = Gates.under("may " + name + " = " + value + ";fine 0;toll 0;");
        x.scale(0, 3);
        x.scale(1, 2);
        x.scale(2, 2);
        x.stone(5);
        Gates.in(x, 10, 9);
        x.cart(1, 2, 1, 9, 1);
        Gates.out(x, 18, 9);
        s.is(name + " is " + value, 1, x.scales(7, 3, 0));
    }

    private void names() {
        s.of(Sentences.TERMS, "in, out: what is in the one pan, in the other one (WEIGHTS together, ARMS no matter);");
        named("in", 14);
        named("out", 18);
        s.of(Sentences.TERMS, "off: how far it is OFF;");
        named("off", 1);
        s.of(Sentences.TERMS, "OFF; hour; many: how many CARTS;");
        named("hour", 3);
        named("many", 3);
        s.of(Sentences.TERMS, "stones: how many STONES it takes (the fewest).");
        named("stones", 1);
        WeighedGate x = Gates.under("may 1;fine stones;toll 0;");
        for (int w : new int[] {2, 3, 5}) {
            x.stone(w);
        }
        Gates.in(x, 10, 30);
        Gates.out(x, 5, 10);
        Gates.out(x, 2, 10);
        Gates.out(x, 10, 10);
        s.is("5 by one, not by 2 and 3", 39, x.scales(3, 0, 5));
        s.is("8 by two", 38, x.scales(5, 0, 5));
        s.is("0 by none", 40, x.scales(9, 0, 5));
    }
}
