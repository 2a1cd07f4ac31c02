import java.lang.management.ManagementFactory;

/** The dearest calls, made 512 times over, take no room beyond what the constructor made. */
public final class RoomTest {
    private static int wrong = 0;

    interface Call {
        long go(LeavenHouse x, int i);
    }

    private static final com.sun.management.ThreadMXBean BEAN =
            (com.sun.management.ThreadMXBean) ManagementFactory.getThreadMXBean();

    private static long taken() {
        return BEAN.getThreadAllocatedBytes(Thread.currentThread().getId());
    }

    private static void tape(LeavenHouse x, String t) {
        x.end(0);
        for (int at = 0; at < t.length(); at += 20) {
            int[] w = new int[5];
            for (int i = 0; i < 20; i++) {
                w[i / 4] = w[i / 4] << 8 | (at + i < t.length() ? t.charAt(at + i) : ' ');
            }
            x.feed(w[0], w[1], w[2], w[3], w[4]);
        }
    }

    private static LeavenHouse full(String law) {
        LeavenHouse x = new LeavenHouse();
        tape(x, law);
        if (x.text() != 0) {
            wrong++;
            System.out.println("not a text: " + law);
        }
        x.by(0);
        for (int i = 0; i < 7; i++) {
            x.join(i, i);
        }
        return x;
    }

    private static void dear(String name, String law, Call call) {
        for (int round = 0; round < 2; round++) {
            LeavenHouse x = full(law);
            long before = taken();
            long start = System.nanoTime();
            for (int i = 0; i < 512; i++) {
                call.go(x, i);
            }
            long bytes = taken() - before;
            long micros = (System.nanoTime() - start) / 1000;
            // The first round loads classes; what the second takes is the program's own.
            if (round == 1) {
                System.out.printf("%-10s %6d bytes in 512 calls, %d us%n", name, bytes, micros);
                if (bytes > 4096) {
                    wrong++;
                    System.out.println("too much");
                }
            }
        }
    }

    private static void dearCalls() {
        String deep = "tires 0*(if not((((full*full)))) = 1 and crock crock crock number # day then "
                + "double double age else full end+" + "full*full+".repeat(17) + "0);";
        String plain = "tires 0;";
        dear("day", deep, (x, i) -> x.day(60) == -1 ? x.undo() : 0);
        dear("foretold", deep, (x, i) -> x.foretold(60, i % 8));
        dear("years", deep, (x, i) -> x.years(i * 19, 40));
        dear("whose", deep, (x, i) -> x.about(5) < 8 ? x.said(i % 8, 0) : x.whose());
        dear("of", deep, (x, i) -> x.of(i % 8, 2));
        dear("image", deep, (x, i) -> i % 2 == 0 ? x.image() : x.back());
        dear("played", "make 7;day 60;" + "make 9;".repeat(20), (x, i) -> x.played(0));
        dear("undo", plain, (x, i) -> i % 30 == 0 ? x.day(60) : x.undo());
        dear("text", plain, (x, i) -> {
            x.back();
            x.feed(0x74697265, 0x73202828, 0x28282828, 0x31292929, 0x2929293b);
            return x.text();
        });
        dear("fewest", plain, (x, i) -> x.fewest(i % 121));
        dear("chain", plain, (x, i) -> x.chain(i % 121, i % 10));
        dear("chains", plain, (x, i) -> x.chains(i % 121));
        dear("hardest", plain, (x, i) -> x.hardest(i % 100, i % 100 + 20));
        dear("halves", plain, (x, i) -> x.halves(1000000 - i));
        dear("parts", plain, (x, i) -> x.parts(1000000 - i));
        dear("cost", plain, (x, i) -> x.cost(39, 1, 7));
        dear("few", plain, (x, i) -> x.few(i % 41, 1 + i % 3));
        dear("spoons", plain, (x, i) -> x.spoons(i % 41));
        dear("both", plain, (x, i) -> x.both(i % 10, i / 10 % 10));
        dear("made", plain, (x, i) -> i % 6 == 0 ? x.order(-1)
                : i % 6 < 5 ? x.order(40 - i * 7 % 23) : x.made(-1));
        dear("reached", plain, (x, i) -> x.reached(6, i % 60));
        dear("first", plain, (x, i) -> x.first(i % 10));
        dear("game", plain, (x, i) -> x.game(i % 13));
        dear("needless", plain, (x, i) -> i < 11 ? x.tell(i + 2) : x.needless());
    }

    private static void constructor() {
        new LeavenHouse();
        long before = taken();
        for (int i = 0; i < 100; i++) {
            new LeavenHouse();
        }
        long bytes = (taken() - before) / 100;
        System.out.println("an object takes " + bytes + " bytes");
        if (bytes > 60000) {
            wrong++;
        }
    }

    public static void main(String[] args) {
        dearCalls();
        constructor();
        System.out.println(wrong == 0 ? "room: all as due" : wrong + " wrong");
        System.exit(wrong == 0 ? 0 : 1);
    }
}
