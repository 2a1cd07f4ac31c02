import java.lang.reflect.InvocationTargetException;
import java.lang.reflect.Method;
import java.lang.reflect.Modifier;
import java.util.ArrayList;
import java.util.Arrays;
import java.util.Comparator;
import java.util.List;
import java.util.Random;
import java.util.function.Consumer;

/**
 * Rule 7: up to an object's 512th call none throws or fails to end, whatever it is given and in
 * whatever state the object is.
 */
public final class AnyCallTest {
    private static final int MOST_CALLS = 512;
    private static final int[] EDGES = {Integer.MIN_VALUE, Integer.MIN_VALUE + 1, -1000000, -3, -2, -1,
        0, 1, 2, 3, 4, 5, 6, 7, 8, 9, 10, 11, 12, 13, 20, 24, 25, 30, 31, 39, 40, 41, 59, 60, 61, 64,
        119, 120, 121, 127, 128, 299, 300, 301, 9998, 9999, 10000, 19998, 19999, 999999, 1000000,
        1000001, Integer.MAX_VALUE - 1, Integer.MAX_VALUE, 0x74697265, 0x73206461, 0x793b2020};
    private static final Method[] FACE = Arrays.stream(LeavenHouse.class.getDeclaredMethods())
            .filter(m -> Modifier.isPublic(m.getModifiers()))
            .sorted(Comparator.comparing(Method::getName)).toArray(Method[]::new);

    private static int wrong = 0;
    private static int calls = 0;
    private static volatile String latest = "";

    public static void main(String[] args) throws Exception {
        watch();
        if (FACE.length != 47) {
            fail("the face has " + FACE.length + " methods");
        }
        drawnCalls();
        for (Consumer<LeavenHouse> state : states()) {
            everyEdge(state);
        }
        System.out.println(wrong == 0 ? "any call: " + calls + " calls, none threw" : wrong + " wrong");
        System.exit(wrong == 0 ? 0 : 1);
    }

    /** A call that doesn't end would hold all tests up: it is told, and all ends. */
    private static void watch() {
        Thread watch = new Thread(() -> {
            try {
                Thread.sleep(300000);
            } catch (InterruptedException e) {
                return;
            }
            System.out.println("doesn't end: " + latest);
            Runtime.getRuntime().halt(1);
        });
        watch.setDaemon(true);
        watch.start();
    }

    private static void fail(String what) {
        wrong++;
        if (wrong <= 40) {
            System.out.println(what);
        }
    }

    private static void call(LeavenHouse x, Method m, Object... args) throws Exception {
        calls++;
        latest = m.getName() + Arrays.toString(args);
        try {
            m.invoke(x, args);
        } catch (InvocationTargetException e) {
            fail(latest + " threw " + e.getCause());
        }
    }

    /** Drawn methods with drawn numbers, 512 on each object. */
    private static void drawnCalls() throws Exception {
        for (int run = 0; run < 400; run++) {
            Random draws = new Random(run);
            LeavenHouse x = new LeavenHouse();
            for (int i = 0; i < MOST_CALLS; i++) {
                Method m = FACE[draws.nextInt(FACE.length)];
                Object[] args = new Object[m.getParameterCount()];
                for (int k = 0; k < args.length; k++) {
                    args[k] = m.getParameterTypes()[k] == boolean.class ? (Object) draws.nextBoolean()
                            : (Object) (draws.nextInt(3) == 0 ? draws.nextInt()
                            : EDGES[draws.nextInt(EDGES.length)]);
                }
                call(x, m, args);
            }
        }
    }

    /** Each method with every edge (two numbers: every pair of them), always from that state. */
    private static void everyEdge(Consumer<LeavenHouse> state) throws Exception {
        LeavenHouse x = null;
        int left = 0;
        for (Method m : FACE) {
            for (Object[] args : rows(m)) {
                if (left < 2) {
                    x = new LeavenHouse();
                    state.accept(x);
                    x.image();
                    left = 90;
                }
                call(x, m, args);
                // An image that was made by the call itself stays what it was.
                x.back();
                left -= 2;
            }
        }
    }

    private static List<Object[]> rows(Method m) {
        List<Object[]> rows = new ArrayList<>();
        int count = m.getParameterCount();
        if (count == 0) {
            rows.add(new Object[0]);
        } else if (m.getParameterTypes()[0] == boolean.class) {
            rows.add(new Object[] {true});
            rows.add(new Object[] {false});
        } else if (count == 1) {
            for (int a : EDGES) {
                rows.add(new Object[] {a});
            }
        } else if (count == 2) {
            for (int a : EDGES) {
                for (int b : EDGES) {
                    rows.add(new Object[] {a, b});
                }
            }
        } else {
            Random draws = new Random(count);
            for (int i = 0; i < 600; i++) {
                Object[] row = new Object[count];
                for (int k = 0; k < count; k++) {
                    row[k] = EDGES[draws.nextInt(EDGES.length)];
                }
                rows.add(row);
            }
        }
        return rows;
    }

    private static List<Consumer<LeavenHouse>> states() {
        return List.of(x -> { }, AnyCallTest::empty, AnyCallTest::crowded, AnyCallTest::lastDay,
                AnyCallTest::rich);
    }

    private static void empty(LeavenHouse x) {
        x.pour(0);
        Edges.read(x, "tires 1/0;price 1/pounds;make 120;day 60;");
        x.by(0);
    }

    /** All that has a most is at it, but the day and the fund. */
    private static void crowded(LeavenHouse x) {
        String deep = "tires ((((((((9999*9999*9999*9999))))))));";
        String wide = "price if not not not not 1=1 or 1=2 and 2<double double double crock 7 then "
                + "-crock-1 else fund*fund*fund/full+" + "1+".repeat(60) + "age end;";
        String script = "make 119;" + "make 71;".repeat(20) + "day 60;join 0 and 0;pour 0;";
        Edges.read(x, deep);
        Edges.read(x, wide);
        Edges.read(x, script);
        Edges.read(x, "tires " + "-".repeat(7) + "crock 9999-" + "full*full-".repeat(20) + "odd;");
        if (!x.by(3)) {
            fail("four texts: " + x.fault(0) + " at " + x.fault(1));
        }
        Edges.heavy(x, 9999);
        x.day(30);
        for (int i = 0; i < 8; i++) {
            x.join(0, 0);
        }
        for (int i = 0; i < 12; i++) {
            x.order(40 - 3 * i);
            x.tell(1 << i + 1);
            x.said(i % 8, i % 11);
        }
        Edges.tape(x, "tires " + "(".repeat(8) + "1" + ")".repeat(8) + " ".repeat(276) + ";");
    }

    private static void lastDay(LeavenHouse x) {
        Edges.read(x, "tires 0;day 60;day 1;make 120;");
        x.by(0);
        for (int i = 0; i < 7; i++) {
            x.join(i, i);
        }
        for (int i = 0; i < 166; i++) {
            x.day(60);
        }
        x.day(39);
    }

    private static void rich(LeavenHouse x) {
        Edges.read(x, "tires 10;price 9999+fund;");
        x.by(0);
        for (int i = 0; i < 102; i++) {
            x.join(0, 0);
            x.bake(1);
        }
        Edges.heavy(x, 9999);
    }
}
