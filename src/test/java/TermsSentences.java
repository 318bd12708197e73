import java.util.function.ToLongFunction;

/** What the terms say of the scale and of refusals, sentence by sentence. */
final class TermsSentences {
    private static final int NONE = -1;
    private static final int BAD = -2;
    private static final int STATE = -3;
    private static final int FULL = -4;
    private static final long NO = -4611686018427387904L;

    private final Sentences s;

    TermsSentences(Sentences s) {
        this.s = s;
    }

    void ask() {
        scale();
        numbers();
        hostNumbers();
        firstOfSeveral();
        firstOfSeveralOfTheHost();
        answersOfMinusOne();
        refusalsChangeNothing();
        askedChangesNothing();
    }

    private void scale() {
        WeighedGate x = new WeighedGate();
        s.of(Sentences.TERMS, "THE SCALE: ARMS of what comes in, of what goes out (1 .. 3 each; 1 at first),");
        s.row("count at first", x::count, 1, 1);
        for (int arm = 0; arm < 2; arm++) {
            int what = arm;
            s.row("arm of", v -> x.scale(what, v), BAD, 1, 1, 2, BAD);
        }
        s.of(Sentences.TERMS, "SLACK (0 .. 9; 0 at first).");
        s.is("count(2) at first", 0, x.count(2));
        s.row("slack of", v -> x.scale(2, v), 0, 0, 1, 2, 3, 4, 5, 6, 7, 8, BAD);
        s.is("below 0", BAD, x.scale(2, -1));
    }

    private void numbers() {
        WeighedGate x = full();
        s.of(Sentences.TERMS, "NONE there is no such thing;");
        s.is("the constant", NONE, WeighedGate.NONE);
        s.is("scale(3, 1)", NONE, x.scale(3, 1));
        s.of(Sentences.TERMS, "BAD a number is not as told;");
        s.is("the constant", BAD, WeighedGate.BAD);
        s.is("stone(0)", BAD, x.stone(0));
        s.of(Sentences.TERMS, "STATE as told; FULL.");
        s.is("the constant", STATE, WeighedGate.STATE);
        s.is("own(1, 0)", STATE, x.own(1, 0));
        s.is("the constant", FULL, WeighedGate.FULL);
        s.is("stone(1)", FULL, x.stone(1));
        s.is("the constant", NO, WeighedGate.NO);
    }

    private void hostNumbers() {
        WeighedGate x = full();
        s.of(Sentences.TERMS, "The host's: -11 nothing there,");
        s.is("cell(3, 0, 0)", -11, x.cell(3, 0, 0));
        s.of(Sentences.TERMS, "-12 a place outside,");
        s.is("cell(0, 4, 0)", -12, x.cell(0, 4, 0));
        s.of(Sentences.TERMS, "-13 of another sort or KIND,");
        s.is("copy(0, 0, 1, 0, 0)", -13, x.copy(0, 0, 1, 0, 0));
        s.is("taken(0, 0)", -13, x.taken(0, 0));
        s.of(Sentences.TERMS, "-14 a size below 0.");
        s.is("sheet(0, 0, -1)", -14, x.sheet(0, 0, -1));
    }

    /** Nothing has room: five stones, ten carts, six texts, a full tape; sheets of 4 ints, of 3 bytes, two missing. */
    private static WeighedGate full() {
        WeighedGate x = Gates.withStones(1, 2, 3, 4, 5);
        for (int c = 0; c < 10; c++) {
            x.cart(c % 2, c % 6, 5 + c, 50, 1);
        }
        for (int t = 1; t < 6; t++) {
            Due.read(x, "may 1;fine " + t + ";toll 0;");
        }
        for (int k = 0; k < 32; k++) {
            x.feed(5, '?', '?', '?', '?', '?');
        }
        Due.tell(x, 0, 0, 3, 1, 12);
        x.sheet(1, 0, 3);
        return x;
    }

    private void firstOfSeveral() {
        WeighedGate x = full();
        s.of(Sentences.TERMS, "REFUSALS, of several the first one told");
        s.is("scale: NONE ahead of BAD", NONE, x.scale(3, 10));
        s.is("stone: BAD ahead of FULL", BAD, x.stone(100));
        s.is("feed: BAD ahead of FULL", BAD, x.feed(6, 1, 1, 1, 1, 1));
        s.is("feed: BAD ahead of FULL", BAD, x.feed(1, 1, 1, 1, 1, 256));
        s.is("text: FULL ahead of the fault", FULL, x.text());
        s.is("cart: BAD ahead of FULL", BAD, x.cart(0, 6, 5, 5, 5));
        s.is("set: -5 ahead of -7", -5, x.set(10, 2, 10));
        s.is("set: -7 ahead of STATE", -7, x.set(0, 1, 2));
        s.is("cartTold: -5 ahead of -7", -5, x.cartTold(10, 6));
        s.is("at: -5 ahead of -7", -5, x.at(10, 10, 2));
        s.is("own: BAD ahead of STATE", BAD, x.own(100, 0));
        s.is("scales: -5 ahead of -7", -5, x.scales(1024, 10, 6));
        s.is("pairs: -5 ahead of -7", -5, x.pairs(10, 2));
        s.is("best: -5 ahead of -7", -5, x.best(10, 2));
        s.is("dusk: -5 ahead of -7", -5, x.dusk(11, 5));
        s.is("goes: BAD ahead of -5", BAD, x.goes(10, 2));
        s.is("bring: -5 ahead of -7", -5, x.bring(10, 2));
        s.is("lost: -5 ahead of -7", -5, x.lost(10, 11, 10000, 3));
    }

    private void firstOfSeveralOfTheHost() {
        WeighedGate x = full();
        s.is("sheet: BAD ahead of -14", BAD, x.sheet(4, 0, -1));
        s.is("sheet: BAD ahead of -14", BAD, x.sheet(0, 3, -1));
        s.is("cell: BAD ahead of -12", BAD, x.cell(4, -1, 0));
        s.is("cell: -11 ahead of -12", -11, x.cell(2, -1, 0));
        s.is("copy: BAD ahead of -11", BAD, x.copy(2, -1, 4, -1, -1));
        s.is("copy: -11 ahead of -13, -12", -11, x.copy(0, -1, 2, -1, -1));
        s.is("copy: -13 ahead of -12", -13, x.copy(0, -1, 1, -1, -1));
        s.is("cartsBy: BAD ahead of -11", BAD, x.cartsBy(2, 0, -1, 9));
        s.is("cartsBy: -11 ahead of -12", -11, x.cartsBy(2, 0, -1, 1));
        s.is("cartsBy: -13 ahead of -12", -13, x.cartsBy(0, 1, -1, 1));
        s.is("taken: BAD ahead of -12", BAD, x.taken(15, 7));
        x.sell();
        s.is("taken: -11 ahead of -13", -11, x.taken(4, 0));
        s.is("judge: -11 ahead of the size", -11, x.judge(2));
        s.is("laws: -11 ahead of the size", -11, x.laws(2));
    }

    private void answersOfMinusOne() {
        s.of(Sentences.TERMS, "(a -1 that is an answer comes behind the refusal of a number):");
        WeighedGate x = Gates.withStones(1);
        s.is("make, an answer", -1, x.make(999));
        s.is("make", BAD, x.make(1000));
        s.is("makings, an answer", -1, x.makings(0, 1));
        s.is("makings", BAD, x.makings(-1, 1));
        Gates.in(x, 5, 5);
        s.is("scales, an answer", -1, x.scales(1, 9, 3));
        s.is("scales", -7, x.scales(1, 10, 3));
        s.is("against, an answer", -1, x.against(9, 0));
        s.is("against", -5, x.against(10, 0));
        s.is("goes, an answer", -1, x.goes(0, 0));
        s.is("goes", BAD, x.goes(0, 2));
        s.is("hold, an answer", -1, x.hold(0));
        s.is("hold", BAD, x.hold(-1));
        x.sheet(0, 2, 0);
        s.is("judge, an answer", -1, x.judge(0));
        s.is("judge", BAD, x.judge(4));
        x.sheet(0, 2, 1);
        s.is("judge of an odd size", BAD, x.judge(0));
    }

    // ---- what changes nothing

    /** A call that is refused so leaves all that can be told as it was. */
    private void unchanged(String call, long refusal, ToLongFunction<WeighedGate> asked) {
        WeighedGate x = full();
        x.image();
        String was = Gates.told(x);
        s.is(call, refusal, asked.applyAsLong(x));
        s.holds(call + " changes nothing", was.equals(Gates.told(x)));
        x.back();
        s.holds(call + " does not change the image", was.equals(Gates.told(x)));
    }

    private void refusalsChangeNothing() {
        s.of(Sentences.TERMS, "They change nothing, but where it is told.");
        unchanged("scale(3, 2)", NONE, x -> x.scale(3, 2));
        unchanged("scale(0, 4)", BAD, x -> x.scale(0, 4));
        unchanged("scale(1, 0)", BAD, x -> x.scale(1, 0));
        unchanged("scale(2, 10)", BAD, x -> x.scale(2, 10));
        unchanged("stone(100)", BAD, x -> x.stone(100));
        unchanged("stone(50)", FULL, x -> x.stone(50));
        unchanged("feed(6)", BAD, x -> x.feed(6, 1, 1, 1, 1, 1));
        unchanged("feed(5)", FULL, x -> x.feed(5, 1, 1, 1, 1, 1));
        unchanged("text()", FULL, x -> x.text());
        unchanged("force(6)", BAD, x -> x.force(6));
        unchanged("cart of kind 6", BAD, x -> x.cart(0, 6, 5, 5, 5));
        unchanged("cart", FULL, x -> x.cart(1, 5, 9, 9, 9));
        unchanged("set(10, 0, 3)", -5, x -> x.set(10, 0, 3));
        unchanged("set(0, 0, 10)", -7, x -> x.set(0, 0, 10));
        unchanged("set(4, 1, 2)", -7, x -> x.set(4, 1, 2));
        unchanged("set(0, 1, 1)", STATE, x -> x.set(0, 1, 1));
        unchanged("own(9, 0)", STATE, x -> x.own(9, 0));
        unchanged("film(4)", BAD, x -> x.film(4));
        unchanged("sheet(0, 3, 2)", BAD, x -> x.sheet(0, 3, 2));
        unchanged("sheet(0, 2, 41)", BAD, x -> x.sheet(0, 2, 41));
        unchanged("sheet(0, 2, -1)", -14, x -> x.sheet(0, 2, -1));
        unchanged("cell(4, 0, 9)", BAD, x -> x.cell(4, 0, 9));
        unchanged("cell(0, 4, 9)", -12, x -> x.cell(0, 4, 9));
        unchanged("cell(0, -1, 9)", -12, x -> x.cell(0, -1, 9));
        unchanged("cell(2, 0, 9)", -11, x -> x.cell(2, 0, 9));
        unchanged("copy(0, 0, 2, 0, 1)", -11, x -> x.copy(0, 0, 2, 0, 1));
        unchanged("copy(1, 0, 0, 0, 3)", -13, x -> x.copy(1, 0, 0, 0, 3));
        unchanged("copy(0, 1, 0, 0, 4)", -12, x -> x.copy(0, 1, 0, 0, 4));
        unchanged("cartsBy(0, 1, 0, 1)", -13, x -> x.cartsBy(0, 1, 0, 1));
        WeighedGate none = new WeighedGate();
        String was = Gates.told(none);
        s.is("sell() of none", STATE, none.sell());
        s.is("back() to none", STATE, none.back());
        s.holds("neither changes anything", was.equals(Gates.told(none)));
        s.is("no image has come", STATE, none.back());
    }

    private void asked(String call, ToLongFunction<WeighedGate> asked) {
        WeighedGate x = full();
        x.sell();
        x.image();
        x.set(3, 0, 4);
        String was = Gates.told(x);
        asked.applyAsLong(x);
        s.holds(call + " changes nothing", was.equals(Gates.told(x)));
        x.back();
        s.is(call + " does not change the image", 0, x.cartTold(3, 0));
    }

    private void askedChangesNothing() {
        s.of(Sentences.TERMS, "What is asked changes nothing, but where it is told.");
        asked("stoneTold", x -> x.stoneTold(0));
        asked("count", x -> x.count(7));
        asked("asks", x -> x.asks(1, 5005, 5, 5));
        asked("cartTold", x -> x.cartTold(0, 0));
        asked("at", x -> x.at(2, 9, 0));
        asked("make", x -> x.make(7));
        asked("makings", x -> x.makings(999, 1));
        asked("own", x -> x.own(99, 0));
        asked("falsely", x -> x.falsely(11));
        asked("scales", x -> x.scales(3, 9, 5));
        asked("pairs", x -> x.pairs(9, 1));
        asked("against", x -> x.against(9, 1));
        asked("best", x -> x.best(9, 0));
        asked("dusk", x -> x.dusk(10, 1));
        asked("goes", x -> x.goes(0, 0));
        asked("hold", x -> x.hold(0));
        asked("gain", x -> x.gain(0));
        asked("bring", x -> x.bring(0, 0));
        asked("judge", x -> x.judge(0));
        asked("laws", x -> x.laws(0));
        asked("lost", x -> x.lost(9, 3, 30, 1));
        asked("drawn", x -> x.drawn(99999, 0));
        asked("odds", x -> x.odds(0, 99999, 10, 0));
        asked("taken", x -> x.taken(0, 6));
    }
}
