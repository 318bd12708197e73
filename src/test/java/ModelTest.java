import java.util.Arrays;
import java.util.Random;

/** Long walks of calls, each asked of the program and of the model; the seeds are fixed. */
final class ModelTest {
    private static final int CALLS = 500;
    private static final int[] FAR = {-1, -2, 10, 100, 1000, 1 << 10, 1 << 30, 1 << 31, -14, 2147483647, 256, 4, 5};

    private final Due due;
    private final Random lot;
    private final WeighedGate x = new WeighedGate();
    private final GateModel m = new GateModel();
    private final StringBuilder run = new StringBuilder();

    private ModelTest(Due due, int seed) {
        this.due = due;
        lot = new Random(seed);
    }

    public static void main(String[] args) {
        Due due = new Due();
        int walks = args.length > 0 ? Integer.parseInt(args[0]) : 120;
        int from = args.length > 1 ? Integer.parseInt(args[1]) : 0;
        for (int seed = from; seed < from + walks && due.allAsDue(); seed++) {
            new ModelTest(due, seed).walk(seed);
        }
        due.end();
    }

    private void walk(int seed) {
        int calls = 0;
        int early = seed % 3 == 0 ? 60 : 25;
        while (calls < CALLS && due.allAsDue()) {
            int call = calls < early ? lot.nextInt(12) : lot.nextInt(100);
            if (call == 3 && lot.nextInt(4) > 0) {
                call = 5;
            }
            if (call == 6 || call == 95) {
                calls += feedText(calls);
            }
            ask(call);
            calls++;
        }
        if (!due.allAsDue()) {
            System.out.println("walk " + seed + ":" + run);
        }
    }

    /** A number within bounds, seldom one that is not. */
    private int some(int low, int high) {
        int chance = lot.nextInt(60);
        if (chance == 0) {
            return FAR[lot.nextInt(FAR.length)];
        }
        if (chance == 1) {
            return lot.nextBoolean() ? low - 1 : high + 1;
        }
        if (chance < 6) {
            return lot.nextBoolean() ? low : high;
        }
        return low + lot.nextInt(high - low + 1);
    }

    private int cartNumber() {
        return some(0, Math.max(0, m.count(4) - (lot.nextInt(20) == 0 ? 0 : 1)));
    }

    /** Carts as bits: mostly such as may be weighed at the hour, or nearly. */
    private int someSet(int h) {
        int all = (1 << m.count(4)) - 1;
        int best = m.best(h, 0);
        if (best > 0 && lot.nextInt(3) > 0) {
            return lot.nextInt(3) > 0 ? best : best ^ 1 << lot.nextInt(m.count(4));
        }
        int set = some(0, all + 1);
        return lot.nextInt(4) == 0 ? set : set & some(0, all + 1) & all | (all > 0 ? 1 << lot.nextInt(m.count(4)) : 0);
    }

    private String sum(int depth) {
        String[] names = {"in", "out", "off", "hour", "many", "stones"};
        int pick = lot.nextInt(depth > 5 ? 6 : 12);
        switch (pick) {
            case 0:
            case 1:
            case 2:
                return names[lot.nextInt(6)];
            case 3:
            case 4:
                return "" + lot.nextInt(lot.nextInt(8) == 0 ? 12000 : 12);
            case 5:
                return names[lot.nextInt(6)] + " - " + lot.nextInt(30);
            case 6:
                return "-" + sum(depth + 1);
            case 7:
                return "(" + expression(depth + 1) + ")";
            case 8:
                return sum(depth + 1) + "*" + sum(depth + 1);
            case 9:
                return sum(depth + 1) + "+" + sum(depth + 1);
            case 10:
                return sum(depth + 1) + " - " + sum(depth + 1);
            default:
                return "((" + sum(depth + 1) + "))";
        }
    }

    private String expression(int depth) {
        int pick = lot.nextInt(depth > 3 ? 3 : 8);
        switch (pick) {
            case 0:
                return sum(depth);
            case 1:
                return sum(depth) + "<" + sum(depth);
            case 2:
                return sum(depth) + " = " + sum(depth);
            case 3:
                return "not " + expression(depth + 1);
            case 4:
                return expression(depth + 1) + " and " + expression(depth + 1);
            case 5:
                return expression(depth + 1) + " or " + expression(depth + 1);
            default:
                return sum(depth + 1);
        }
    }

    private String someText() {
        String may = lot.nextInt(3) == 0 ? "1" : expression(2);
        String text = "may " + may + ";fine " + sum(3) + ";toll " + sum(4) + ";";
        if (text.length() > 160 && lot.nextInt(10) > 0) {
            text = "may " + sum(4) + ";\nfine " + sum(5) + " ; toll " + lot.nextInt(12) + ";";
        }
        if (lot.nextInt(3) == 0) {
            int at = lot.nextInt(text.length());
            String[] odd = {"(", ")", "not ", "-", "or", "7", " ", "x", "~", "\n", "<", "stone", "in", ";", "12345", "="};
            int cut = lot.nextInt(3);
            text = text.substring(0, at) + odd[lot.nextInt(odd.length)]
                + text.substring(Math.min(text.length(), at + cut));
        }
        if (lot.nextInt(20) == 0) {
            text = text.substring(0, text.length() - 1 - lot.nextInt(5));
        }
        return text;
    }

    /** Feeds a text, five by five; answers how many calls that were. */
    private int feedText(int callsAhead) {
        String text = someText();
        int calls = 0;
        for (int i = 0; i < text.length() && callsAhead + calls < CALLS; i += 5) {
            int[] b = new int[5];
            int n = Math.min(5, text.length() - i);
            for (int k = 0; k < n; k++) {
                b[k] = text.charAt(i + k);
            }
            same("feed", m.feed(n, b), x.feed(n, b[0], b[1], b[2], b[3], b[4]), n, b[0], b[1], b[2], b[3], b[4]);
            calls++;
        }
        same("text", m.text(), x.text());
        return calls + 1;
    }

    private void same(String call, long want, long got, int... args) {
        String told = call + Arrays.toString(args).replace('[', '(').replace(']', ')');
        run.append("\n  ").append(told).append(" -> ").append(got);
        due.is(told, want, got);
    }

    private void ask(int call) {
        int k = cartNumber();
        int h = some(0, 9);
        if (call < 12 || call >= 92) {
            change(call);
        } else if (call < 40) {
            askSmall(call, k, h);
        } else if (call < 68) {
            askWeighings(call, k, h);
        } else {
            askHost(call);
        }
    }

    private void change(int call) {
        int k = cartNumber();
        int[] kinds = {0, 0, 1, 2, 3, 4, 4, 5};
        int a;
        int b;
        switch (call) {
            case 0:
            case 97:
                a = some(0, 2);
                b = a == 2 ? some(0, 9) : some(1, 3);
                same("scale", m.scale(a, b), x.scale(a, b), a, b);
                break;
            case 1:
            case 2:
                a = lot.nextInt(5) > 0 ? some(1, 12) : some(1, 99);
                same("stone", m.stone(a), x.stone(a), a);
                break;
            case 3:
            case 94:
                same("sell", m.sell(), x.sell());
                break;
            case 4:
            case 93:
                a = some(0, Math.max(0, m.count(5) - 1));
                same("force", m.force(a), x.force(a), a);
                break;
            case 7:
            case 8:
            case 92:
                a = some(0, 9);
                same("set", m.set(k, 0, a), x.set(k, 0, a), k, 0, a);
                break;
            case 9:
            case 96:
                a = some(0, 1);
                b = some(0, 1);
                same("set", m.set(k, a, b), x.set(k, a, b), k, a, b);
                break;
            case 98:
                same("image", m.image(), x.image());
                break;
            case 99:
                same("back", m.back(), x.back());
                break;
            default:
                int[] five = {some(0, 1), kinds[lot.nextInt(8)], some(1, lot.nextInt(4) > 0 ? 12 : 99), some(0, 99), some(0, 9)};
                if (lot.nextInt(30) == 0) {
                    five[1] = some(0, 5);
                }
                same("cart", m.cart(five[0], five[1], five[2], five[3], five[4]),
                    x.cart(five[0], five[1], five[2], five[3], five[4]), five);
        }
    }

    private void askSmall(int call, int k, int h) {
        int a;
        int b;
        switch (call % 9) {
            case 0:
                a = some(0, 5);
                same("stoneTold", m.stoneTold(a), x.stoneTold(a), a);
                break;
            case 1:
                a = some(0, 7);
                same("count", m.count(a), x.count(a), a);
                break;
            case 2:
                int[] q = {some(0, 2), some(0, 999999), some(0, 99), some(0, 99)};
                q[1] = lot.nextBoolean() ? q[1] : some(0, 30) * 1000 + some(0, 30);
                same("asks", m.asks(q[0], q[1], q[2], q[3]), x.asks(q[0], q[1], q[2], q[3]), q);
                break;
            case 3:
                a = some(0, 5);
                same("cartTold", m.cartTold(k, a), x.cartTold(k, a), k, a);
                break;
            case 4:
                a = some(0, 1);
                same("at", m.at(k, h, a), x.at(k, h, a), k, h, a);
                break;
            case 5:
                a = lot.nextBoolean() ? some(0, 40) : some(0, 999);
                same("make", m.make(a), x.make(a), a);
                break;
            case 6:
                a = lot.nextBoolean() ? some(0, 40) : some(0, 999);
                b = some(0, 1);
                same("makings", m.makings(a, b), x.makings(a, b), a, b);
                break;
            case 7:
                a = some(0, 99);
                b = some(0, 1);
                same("own", m.own(a, b), x.own(a, b), a, b);
                break;
            default:
                a = lot.nextBoolean() ? some(0, 60) : some(0, 999);
                same("falsely", m.falsely(a), x.falsely(a), a);
        }
    }

    private void askWeighings(int call, int k, int h) {
        int a = some(0, 1);
        int b;
        switch (call - 40) {
            case 0:
            case 1:
            case 2:
            case 3:
            case 4:
            case 5:
                a = someSet(h);
                b = some(0, 5);
                same("scales", m.scales(a, h, b), x.scales(a, h, b), a, h, b);
                break;
            case 6:
            case 7:
                same("pairs", m.pairs(h, a), x.pairs(h, a), h, a);
                break;
            case 8:
            case 9:
            case 10:
                same("against", m.against(h, k), x.against(h, k), h, k);
                break;
            case 11:
            case 12:
                same("best", m.best(h, a), x.best(h, a), h, a);
                break;
            case 13:
            case 14:
            case 15:
                a = lot.nextBoolean() ? 10 : some(0, 10);
                b = some(0, 4);
                same("dusk", m.dusk(a, b), x.dusk(a, b), a, b);
                break;
            case 16:
                same("goes", m.goes(k, a), x.goes(k, a), k, a);
                break;
            case 17:
                same("hold", m.hold(a), x.hold(a), a);
                break;
            case 18:
                same("gain", m.gain(k), x.gain(k), k);
                break;
            case 19:
                same("bring", m.bring(k, a), x.bring(k, a), k, a);
                break;
            case 20:
                b = some(0, 99999);
                same("drawn", m.drawn(b, a), x.drawn(b, a), b, a);
                break;
            case 21:
                int[] q = {k, some(0, 99999), some(1, 10), a};
                same("odds", m.odds(q[0], q[1], q[2], q[3]), x.odds(q[0], q[1], q[2], q[3]), q);
                break;
            case 22:
                b = some(0, 3);
                same("film", m.film(b), x.film(b), b);
                break;
            case 23:
                b = some(0, 3);
                same("judge", m.judge(b), x.judge(b), b);
                break;
            case 24:
                b = some(0, 3);
                same("film", m.film(b), x.film(b), b);
                same("laws", m.laws(b), x.laws(b), b);
                break;
            default:
                int[] p = {h, some(0, 4), some(0, 60), some(0, 2)};
                same("lost", m.lost(p[0], p[1], p[2], p[3]), x.lost(p[0], p[1], p[2], p[3]), p);
        }
    }

    private void askHost(int call) {
        int s = some(0, 3);
        int[] q;
        switch (call % 8) {
            case 0:
                int sort = lot.nextInt(8) == 0 ? some(-1, 2) : 2;
                int n = some(0, lot.nextBoolean() ? 40 : 12);
                same("sheet", m.sheet(s, sort, n), x.sheet(s, sort, n), s, sort, n);
                break;
            case 1:
            case 2:
                q = new int[] {s, some(0, 20), lot.nextInt(6) == 0 ? lot.nextInt() : some(0, 5)};
                same("cell", m.cell(q[0], q[1], q[2]), x.cell(q[0], q[1], q[2]), q);
                break;
            case 3:
                q = new int[] {s, some(0, 6), lot.nextBoolean() ? s : some(0, 3), some(0, 6), some(0, 6)};
                same("copy", m.copy(q[0], q[1], q[2], q[3], q[4]), x.copy(q[0], q[1], q[2], q[3], q[4]), q);
                break;
            case 4:
                q = new int[] {s, lot.nextInt(5) == 0 ? some(0, 2) : 2, some(0, 6), some(0, 3)};
                if (lot.nextInt(3) == 0) {
                    same("back", m.back(), x.back());
                    tellCart(q[0], q[2]);
                }
                same("cartsBy", m.cartsBy(q[0], q[1], q[2], q[3]), x.cartsBy(q[0], q[1], q[2], q[3]), q);
                break;
            case 5:
                q = new int[] {some(0, 14), some(0, 6)};
                same("taken", m.taken(q[0], q[1]), x.taken(q[0], q[1]), q);
                break;
            case 6:
                same("judge", m.judge(s), x.judge(s), s);
                break;
            default:
                tellRow(s);
        }
    }

    private void tellCart(int s, int at) {
        int[] five = {some(0, 1), some(0, 5), some(1, 12), some(0, 99), some(0, 9)};
        for (int i = 0; i < 5; i++) {
            same("cell", m.cell(s, at + i, five[i]), x.cell(s, at + i, five[i]), s, at + i, five[i]);
        }
    }

    /** Tells a row of a weighing, mostly one that may be. */
    private void tellRow(int s) {
        int i = 2 * lot.nextInt(4);
        int h = some(0, 9);
        int set = someSet(h);
        same("cell", m.cell(s, i, h), x.cell(s, i, h), s, i, h);
        same("cell", m.cell(s, i + 1, set), x.cell(s, i + 1, set), s, i + 1, set);
    }
}
