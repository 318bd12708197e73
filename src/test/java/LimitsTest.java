import java.lang.reflect.InvocationTargetException;
import java.lang.reflect.Method;
import java.lang.reflect.Modifier;
import java.util.ArrayList;
import java.util.Comparator;
import java.util.List;

/** No call ever throws, whatever its arguments are and whatever came ahead; what is refused changes nothing. */
final class LimitsTest {
    private static final int[] ODD = {
        Integer.MIN_VALUE, -100000, -1, 0, 1, 2, 3, 4, 5, 6, 9, 10, 11, 40, 41, 99, 100, 160, 255, 999, 1000, 1023,
        1024, 99999, 1000000, Integer.MAX_VALUE - 4, Integer.MAX_VALUE,
    };
    private final Due due = new Due();
    private final List<Method> calls = new ArrayList<>();
    private long lot = 12345;

    public static void main(String[] args) {
        LimitsTest test = new LimitsTest();
        test.listCalls();
        for (int state = 0; state < 4; state++) {
            test.sweep(state);
        }
        test.emptyTapes();
        test.refusalsChangeNothing();
        test.due.end();
    }

    private void listCalls() {
        for (Method method : WeighedGate.class.getDeclaredMethods()) {
            if (Modifier.isPublic(method.getModifiers())) {
                calls.add(method);
            }
        }
        calls.sort(Comparator.comparing(Method::getName));
        due.is("calls", 39, calls.size());
    }

    private static WeighedGate inState(int state) {
        WeighedGate x = new WeighedGate();
        if (state == 1) {
            x.cart(1, 3, 5, 5, 5);
            x.stone(3);
        }
        if (state >= 2) {
            for (int k = 0; k < 10; k++) {
                x.cart(k % 2, k % 6, 99, 99, 9);
                x.stone(99);
            }
            for (int s = 0; s < 3; s++) {
                x.sheet(s, s, state == 2 ? 40 : 1);
            }
            x.scale(0, 3);
            x.scale(2, 9);
            Due.read(x, "may in*out-9999*9999*9999;fine -9999*9999*9999*hour;toll stones*many*off;");
            x.force(state == 2 ? 1 : 0);
            x.image();
        }
        return x;
    }

    private int next(int bound) {
        lot = lot * 48271 % 2147483647;
        return (int) (lot % bound);
    }

    private void sweep(int state) {
        WeighedGate x = inState(state);
        for (Method call : calls) {
            int n = call.getParameterCount();
            int tries = n == 0 ? 1 : n == 1 ? ODD.length : 400;
            for (int k = 0; k < tries; k++) {
                Object[] args = new Object[n];
                for (int i = 0; i < n; i++) {
                    args[i] = n == 1 ? ODD[k] : ODD[next(ODD.length)];
                }
                due.holds(call.getName() + " of " + java.util.Arrays.toString(args), answers(x, call, args));
            }
        }
    }

    private static boolean answers(WeighedGate x, Method call, Object[] args) {
        try {
            call.invoke(x, args);
            return true;
        } catch (InvocationTargetException | IllegalAccessException thrown) {
            System.out.println(thrown.getCause());
            return false;
        }
    }

    /** All tapes of one byte, and of one byte behind what a text begins with. */
    private void emptyTapes() {
        String[] ahead = {"", "may ", "may 1", "may (", "may 1;fine 1;toll 1;", "may not", "may 1<", "may i", "may 9999"};
        for (String start : ahead) {
            for (int b = 0; b < 256; b++) {
                WeighedGate x = new WeighedGate();
                int told = Due.read(x, start + (char) b);
                due.holds(start + " and " + b, told == 1 || told <= -100 && told >= -100 - start.length() - 1);
            }
        }
        WeighedGate x = new WeighedGate();
        due.is("nothing but (", -109, Due.read(x, "may " + "(".repeat(150)));
        due.is("nothing but not", -124, Due.read(x, "may " + "not ".repeat(39)));
        due.is("nothing but -", -109, Due.read(x, "may " + "-".repeat(156)));
        due.is("nothing but digits", -104, Due.read(x, "may " + "9".repeat(156)));
        due.is("nothing but letters", -104, Due.read(x, "may " + "a".repeat(156)));
        due.is("nothing but blanks", -260, Due.read(x, " ".repeat(160)));
    }

    private void refusalsChangeNothing() {
        WeighedGate x = inState(2);
        Due.tell(x, 0, 0, 3, 1, 12);
        x.feed(3, 'm', 'a', 'y', 0, 0);
        String was = Gates.told(x);
        x.scale(0, 4);
        x.scale(3, 1);
        x.stone(3);
        x.stone(0);
        x.feed(6, 1, 1, 1, 1, 1);
        x.feed(5, 1, 1, 1, 1, 256);
        x.force(2);
        x.cart(1, 1, 1, 1, 1);
        x.cart(1, 1, 1, 1, 10);
        x.set(0, 0, 10);
        x.set(0, 1, 0);
        x.set(10, 0, 1);
        x.sheet(0, 2, 41);
        x.sheet(0, 2, -1);
        x.sheet(0, 3, 4);
        x.cell(0, 4, 4);
        x.copy(0, 1, 0, 2, 3);
        x.copy(0, 0, 2, 0, -1);
        x.cartsBy(0, 2, 0, 1);
        x.film(4);
        due.holds("refusals change nothing", was.equals(Gates.told(x)));
        for (int what = 0; what < 5; what++) {
            x.hold(what);
            x.bring(what, 0);
            x.bring(what, 1);
            x.gain(what);
            x.drawn(what, 0);
            x.odds(what, what, 3, 0);
            x.own(what, 0);
            x.falsely(what);
            x.against(what, 1);
            x.pairs(what, 1);
            x.best(what, 1);
            x.scales(what, 1, 0);
            x.lost(what, 2, 8, 0);
            x.at(what, 9, 0);
            x.taken(what, 6);
        }
        due.holds("what is asked changes nothing", was.equals(Gates.told(x)));
    }
}
