/** Counts the answers that are not as due, and prints each of them. */
final class Due {
    private int wrong;
    private int all;

    /** One answer: the call that gave it, what is due, what it gave. */
    void is(String call, long want, long got) {
        all++;
        if (want != got) {
            wrong++;
            System.out.println(call + " answered " + got + ", due is " + want);
        }
    }

    void holds(String what, boolean so) {
        is(what, 1, so ? 1 : 0);
    }

    boolean allAsDue() {
        return wrong == 0;
    }

    void end() {
        System.out.println(all - wrong + " of " + all + " answers are as due");
        if (wrong != 0 || all == 0) {
            System.exit(1);
        }
    }

    /** Feeds a text to the tape, byte by byte, and has it read. */
    static int read(WeighedGate x, String text) {
        write(x, text);
        return x.text();
    }

    static void write(WeighedGate x, String text) {
        for (int i = 0; i < text.length(); i++) {
            x.feed(1, text.charAt(i), 0, 0, 0, 0);
        }
    }

    /** Makes a sheet of ints. */
    static void tell(WeighedGate x, int s, int... numbers) {
        x.sheet(s, 2, numbers.length);
        for (int i = 0; i < numbers.length; i++) {
            x.cell(s, i, numbers[i]);
        }
    }
}
