/** Promises 7 to 10: the tape, texts and their faults, the law, what it says. */
final class TextTest {
    private final Due due = new Due();

    public static void main(String[] args) {
        TextTest test = new TextTest();
        test.feed();
        test.fed();
        test.text();
        test.textBehindFaults();
        test.faults();
        test.nesting();
        test.force();
        test.asks();
        test.reckoning();
        test.due.end();
    }

    private void feed() {
        WeighedGate x = new WeighedGate();
        due.is("n 0", WeighedGate.BAD, x.feed(0, 1, 1, 1, 1, 1));
        due.is("n 6", WeighedGate.BAD, x.feed(6, 1, 1, 1, 1, 1));
        due.is("a below", WeighedGate.BAD, x.feed(5, -1, 1, 1, 1, 1));
        due.is("b below", WeighedGate.BAD, x.feed(1, 1, -1, 1, 1, 1));
        due.is("c below", WeighedGate.BAD, x.feed(1, 1, 1, -1, 1, 1));
        due.is("d above", WeighedGate.BAD, x.feed(1, 1, 1, 1, 256, 1));
        due.is("e above", WeighedGate.BAD, x.feed(1, 1, 1, 1, 1, 256));
        due.is("none came", 0, x.count(7));
        due.is("edges of a byte", 5, x.feed(5, 0, 255, 0, 255, 0));
        for (int size = 10; size <= 155; size += 5) {
            due.is("five more", size, x.feed(5, 32, 32, 32, 32, 32));
        }
        due.is("three more", 158, x.feed(3, 32, 32, 32, 32, 32));
        due.is("no room for three", WeighedGate.FULL, x.feed(3, 32, 32, 32, 32, 32));
        due.is("bad ahead of full", WeighedGate.BAD, x.feed(3, 32, 32, 32, 32, 300));
        due.is("none of them came", 158, x.count(7));
        due.is("two more", 160, x.feed(2, 32, 32, 32, 32, 32));
        due.is("no room for one", WeighedGate.FULL, x.feed(1, 32, 32, 32, 32, 32));
    }

    private void fed() {
        WeighedGate x = new WeighedGate();
        due.is("three of five", 3, x.feed(3, 'm', 'a', 'y', 'x', 'x'));
        due.is("one of five", 4, x.feed(1, ' ', 'x', 'x', 'x', 'x'));
        due.is("two of five", 6, x.feed(2, '1', ';', 'x', 'x', 'x'));
        due.is("four of five", 10, x.feed(4, 'f', 'i', 'n', 'e', 'x'));
        due.is("five", 15, x.feed(5, ' ', '4', '2', ';', 't'));
        Due.write(x, "oll 7;");
        due.is("read as fed", 1, x.text());
        x.force(1);
        due.is("its fine", 42, x.asks(1, 0, 0, 0));
    }

    private void text() {
        WeighedGate x = new WeighedGate();
        for (int t = 1; t < 6; t++) {
            due.is("its number", t, Due.read(x, "may 1;fine " + t + ";toll 0;"));
            due.is("the tape is empty", 0, x.count(7));
            due.is("texts", t + 1, x.count(5));
            if (t == 2) {
                due.is("a fault", -110, Due.read(x, "may 1;fine;toll 0;"));
                due.is("the tape is empty by a fault, too", 0, x.count(7));
                due.is("none came", 3, x.count(5));
            }
        }
        Due.write(x, "may ?");
        due.is("full ahead of the fault", WeighedGate.FULL, x.text());
        due.is("the tape stays", 5, x.count(7));
        for (int t = 1; t < 6; t++) {
            x.force(t);
            due.is("each as it was read", t, x.asks(1, 0, 0, 0));
        }
        WeighedGate y = new WeighedGate();
        String longest = "may 1;fine 0;toll 1" + "+1".repeat(70) + ";";
        due.is("its bytes", 160, longest.length());
        due.is("the longest", 1, Due.read(y, longest));
        y.force(1);
        due.is("its toll", 71, y.asks(2, 0, 0, 0));
    }

    /** What a fault left open or half read is nothing to the next text. */
    private void textBehindFaults() {
        WeighedGate x = new WeighedGate();
        for (int k = 0; k < 3; k++) {
            due.is("a fault late", -258, Due.read(x, "may 1" + "+1".repeat(76) + "+;"));
            due.is("a fault five deep", -109, Due.read(x, "may (((((;"));
            due.is("a fault too deep", -109, Due.read(x, "may ((((((1"));
        }
        due.is("good behind them", 1, Due.read(x, "may (((((1)))));fine 7" + "+1".repeat(40) + ";toll -----0-(-8);"));
        x.force(1);
        due.is("may", 1, x.asks(0, 0, 0, 0));
        due.is("fine", 47, x.asks(1, 0, 0, 0));
        due.is("toll", 8, x.asks(2, 0, 0, 0));
        due.is("letters", -100, Due.read(x, "z".repeat(160)));
        due.is("a word at the end", -106, Due.read(x, "may in"));
        due.is("digits", -100, Due.read(x, "9".repeat(160)));
        due.is("a number at the end", -107, Due.read(x, "may 123"));
        due.is("signs", -100, Due.read(x, ";".repeat(160)));
        due.is("a blank at the end", -106, Due.read(x, "may 1 "));
    }

    private void fault(int place, String text) {
        WeighedGate x = new WeighedGate();
        due.is("fault of " + text, -100 - place, Due.read(x, text));
        due.is("no text by " + text, 1, x.count(5));
        due.is("no tape by " + text, 0, x.count(7));
    }

    private void good(String may) {
        WeighedGate x = new WeighedGate();
        due.is("good: " + may, 1, Due.read(x, "may " + may + ";fine 0;toll 0;"));
    }

    private void faults() {
        fault(0, "");
        fault(3, " \n ");
        fault(0, "a");
        fault(0, "May 1;fine 0;toll 0;");
        fault(0, "mayin;fine 0;toll 0;");
        fault(0, "fine 1;");
        fault(3, "may");
        fault(3, "may;");
        fault(5, "may 1");
        fault(7, "may 1  ");
        fault(6, "may 1;");
        fault(6, "may 1;may 1;");
        fault(6, "may 1;toll 1;fine 1;");
        fault(13, "may 1;fine 0;");
        fault(19, "may 1;fine 0;toll 0");
        fault(20, "may 1;fine 0;toll 0;;");
        fault(22, "may 1;fine 0;toll 0; \nin");
        fault(4, "may 12345;fine 0;toll 0;");
        fault(4, "may 00001;fine 0;toll 0;");
        fault(9, "may 1234 5;fine 0;toll 0;");
        fault(5, "may 1in;fine 0;toll 0;");
        fault(7, "may in out;fine 0;toll 0;");
        fault(0, "xay 1;fine 0;toll 0;");
        fault(6, "may 1;xine 0;toll 0;");
        fault(13, "may 1;fine 0;xoll 0;");
        for (String word : new String[] {"xn", "xut", "xff", "xour", "xany", "xtones", "inn", "ou", "ofx", "hous", "z"}) {
            fault(4, "may " + word + ";fine 0;toll 0;");
        }
        fault(6, "may 1 xr 1;fine 0;toll 0;");
        fault(6, "may 1 xnd 1;fine 0;toll 0;");
        fault(4, "may xot 1;fine 0;toll 0;");
        fault(4, "may ins;fine 0;toll 0;");
        fault(4, "may stone;fine 0;toll 0;");
        fault(8, "may in<1<2;fine 0;toll 0;");
        fault(8, "may in=1<2;fine 0;toll 0;");
        fault(15, "may not in < 1 = 2;fine 0;toll 0;");
        fault(8, "may 1 + not 1;fine 0;toll 0;");
        fault(5, "may -not 1;fine 0;toll 0;");
        fault(5, "may ();fine 0;toll 0;");
        fault(6, "may (1;fine 0;toll 0;");
        fault(5, "may 1);fine 0;toll 0;");
        fault(4, "may and 1;fine 0;toll 0;");
        fault(4, "may or;fine 0;toll 0;");
        fault(9, "may 1 and;fine 0;toll 0;");
        fault(4, "may may;fine 0;toll 0;");
        fault(4, "may *1;fine 0;toll 0;");
        fault(4, "may +1;fine 0;toll 0;");
        fault(6, "may 1*;fine 0;toll 0;");
        fault(4, "may <1;fine 0;toll 0;");
        fault(3, "may\t1;fine 0;toll 0;");
        fault(5, "may 1>0;fine 0;toll 0;");
        fault(6, "may 1 " + (char) 233 + ";fine 0;toll 0;");
        fault(4, "may " + (char) 0 + ";fine 0;toll 0;");
        fault(5, "may (>;fine 0;toll 0;");
    }

    private void nesting() {
        good("(((((1)))))");
        good("-----1");
        good("not not not not not 1");
        good("(not(-(1)))");
        good("(1)+(1)+(1)+(1)+(1)+(1)");
        good("-1+-1+-1+-1+-1+-1");
        good("not 1 and not 1 and not 1 and not 1 and not 1 and not 1");
        good("1 - 1 - 1 - 1 - 1 - 1 - 1");
        good("((((-1 - -1))))");
        good("((((not 1 or not 1))))");
        good("\n( 0001 )\n<\nmany");
        fault(9, "may ((((((1))))));fine 0;toll 0;");
        fault(9, "may ------1;fine 0;toll 0;");
        fault(24, "may not not not not not not 1;fine 0;toll 0;");
        fault(11, "may (not(-(-1)));fine 0;toll 0;");
        fault(15, "may not not ((-((1))));fine 0;toll 0;");
        fault(11, "may not-----(1);fine 0;toll 0;");
        fault(9, "may (((((-1)))));fine 0;toll 0;");
        fault(9, "may (((((not 1)))));fine 0;toll 0;");
        fault(23, "may 1;fine 0;toll ((((((1))))));");
    }

    private void force() {
        WeighedGate x = new WeighedGate();
        Due.read(x, "may 0;fine 8;toll 9;");
        due.is("no such text", WeighedGate.BAD, x.force(2));
        due.is("no such text", WeighedGate.BAD, x.force(-1));
        due.is("the law stays", 0, x.count(6));
        due.is("which was", 0, x.force(1));
        due.is("the law", 1, x.count(6));
        due.is("it says", 0, x.asks(0, 0, 0, 0));
        due.is("it says", 8, x.asks(1, 0, 55, 0));
        due.is("it says", 9, x.asks(2, 0, 55, 0));
        due.is("which was", 1, x.force(1));
        due.is("which was", 1, x.force(0));
        due.is("it says", 10, x.asks(1, 0, 55, 0));
    }

    private void asks() {
        WeighedGate x = new WeighedGate();
        due.is("part below", WeighedGate.BAD, x.asks(-1, 0, 0, 0));
        due.is("part above", WeighedGate.BAD, x.asks(3, 0, 0, 0));
        due.is("in, out below", WeighedGate.BAD, x.asks(0, -1, 0, 0));
        due.is("in, out above", WeighedGate.BAD, x.asks(0, 1000000, 0, 0));
        due.is("off, hour below", WeighedGate.BAD, x.asks(0, 0, -1, 0));
        due.is("off, hour above", WeighedGate.BAD, x.asks(0, 0, 100, 0));
        due.is("many, stones below", WeighedGate.BAD, x.asks(0, 0, 0, -1));
        due.is("many, stones above", WeighedGate.BAD, x.asks(0, 0, 0, 100));
        due.is("the most", 18, x.asks(1, 999999, 99, 99));
        due.is("the most", 9, x.asks(2, 999999, 99, 99));
        String[] names = {"in", "out", "off", "hour", "many", "stones"};
        int[] values = {12, 34, 5, 6, 7, 8};
        for (int n = 0; n < 6; n++) {
            WeighedGate y = new WeighedGate();
            Due.read(y, "may " + names[n] + " = " + values[n] + ";fine " + names[n] + ";toll 99 - " + names[n] + ";");
            y.force(1);
            due.is("may of " + names[n], 1, y.asks(0, 12034, 56, 78));
            due.is("fine of " + names[n], values[n], y.asks(1, 12034, 56, 78));
            due.is("toll of " + names[n], 99 - values[n], y.asks(2, 12034, 56, 78));
            due.is("may of " + names[n], 0, y.asks(0, 13035, 67, 89));
        }
        WeighedGate tens = new WeighedGate();
        Due.read(tens, "may off = 3 and many = 2;fine off*10+hour;toll many*10+stones;");
        tens.force(1);
        for (int off = 0; off < 10; off++) {
            for (int hour = 0; hour < 10; hour++) {
                int two = 10 * off + hour;
                due.is("off, hour of " + two, two, tens.asks(1, 0, two, 0));
                due.is("many, stones of " + two, two, tens.asks(2, 0, 0, two));
            }
        }
        due.is("31 and 21", 1, tens.asks(0, 0, 31, 21));
        WeighedGate z = new WeighedGate();
        Due.read(z, "may in = 999 and out = 0;fine out - 950;toll in - 950;");
        z.force(1);
        due.is("in of 999000", 1, z.asks(0, 999000, 0, 0));
        due.is("in of 999999", 49, z.asks(2, 999999, 0, 0));
        due.is("out of 999999", 49, z.asks(1, 999999, 0, 0));
    }

    /** What a text's fine is. */
    private void says(int value, String expression) {
        WeighedGate x = new WeighedGate();
        Due.read(x, "may " + expression + ";fine " + expression + ";toll " + expression + ";");
        x.force(1);
        due.is("may " + expression, value == 0 ? 0 : 1, x.asks(0, 12034, 56, 78));
        due.is("fine " + expression, value, x.asks(1, 12034, 56, 78));
        due.is("toll " + expression, value, x.asks(2, 12034, 56, 78));
    }

    private void reckoning() {
        says(7, "1 + 2 * 3");
        says(9, "(1 + 2) * 3");
        says(5, "10 - 3 - 2");
        says(9, "10 - (3 - 2)");
        says(24, "2 * 3 * 4");
        says(1, "1 or 0 and 0");
        says(0, "(1 or 0) and 0");
        says(1, "2 or 0");
        says(1, "0 or 7");
        says(0, "0 or 0");
        says(1, "7 and 5");
        says(1, "2 and 4");
        says(0, "2 and 0");
        says(0, "0 and 2");
        says(1, "not 0");
        says(0, "not 7");
        says(1, "not not 7");
        says(1, "not 1 < 0");
        says(1, "(not 1) < 1");
        says(0, "not 1 = 1");
        says(1, "not 0 and 1");
        says(1, "not 1 or 1");
        says(1, "1 < 2");
        says(0, "2 < 2");
        says(0, "3 < 2");
        says(1, "1 + 1 = 2");
        says(0, "1 = 2");
        says(1, "-1 < 0");
        says(6, "-2 * -3");
        says(1, "--1");
        says(3, "5 - -(-2)");
        says(6, "3 + (1 < 2) * 3");
        says(42, "42");
        says(7, "0007");
        says(99, "99");
        says(1, "9999*9999*9999 < 0");
        says(0, "4096*4096*4096");
        says(1, "2048*2048*512 < 0");
        says(46, "in + out");
        says(1, "hour = off + 1 and stones = many + 1");
        bounded(99, "100", 1);
        bounded(99, "9999", 1);
        bounded(0, "0 - 1", 1);
        bounded(0, "-9999", 1);
    }

    /** A fine and a toll beyond 0 .. 99 are the bound, but what may be is as told. */
    private void bounded(int value, String expression, int may) {
        WeighedGate x = new WeighedGate();
        Due.read(x, "may " + expression + ";fine " + expression + ";toll " + expression + ";");
        x.force(1);
        due.is("may " + expression, may, x.asks(0, 0, 0, 0));
        due.is("fine " + expression, value, x.asks(1, 0, 0, 0));
        due.is("toll " + expression, value, x.asks(2, 0, 0, 0));
    }
}
