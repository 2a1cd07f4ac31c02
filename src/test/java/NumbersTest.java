import java.util.ArrayList;
import java.util.List;
import java.util.Random;
import java.util.TreeSet;

/** Promises 18 to 32, 38 and 39 over all they take, against plain searches (Brute). */
public final class NumbersTest {
    private static final int MOST_CALLS = 512;

    private static int wrong = 0;
    private static int used = 0;
    private static LeavenHouse current = new LeavenHouse();

    /** A house for one call more: a new one, when the document promises nothing of the old any more. */
    private static LeavenHouse x() {
        if (used == MOST_CALLS) {
            current = new LeavenHouse();
            used = 0;
        }
        used++;
        return current;
    }

    private static void due(String call, long got, long want) {
        if (got != want) {
            wrong++;
            System.out.println(call + " answered " + got + ", due is " + want);
        }
    }

    public static void main(String[] args) {
        chains();
        ways();
        costs();
        crocksAndSpoons();
        orders();
        allOrders();
        reached();
        games();
        System.out.println(wrong == 0 ? "numbers: all as due" : wrong + " wrong");
        System.exit(wrong == 0 ? 0 : 1);
    }

    private static void chains() {
        int[] fewest = new int[121];
        for (int n = 1; n <= 120; n++) {
            List<List<Integer>> all = Brute.shortest(List.of(n));
            List<Integer> lowest = all.get(0);
            fewest[n] = lowest.size() - 1;
            due("fewest " + n, x().fewest(n), fewest[n]);
            due("chains " + n, x().chains(n), all.size());
            due("fresh chains " + n, new LeavenHouse().chains(n), all.size());
            for (int i = 0; i < 12; i++) {
                due("chain " + n + " " + i, x().chain(n, i), i < lowest.size() ? lowest.get(i) : -1);
            }
            due("chain below", x().chain(n, -1), -1);
        }
        for (int n : new int[] {0, -1, 121, Integer.MIN_VALUE, Integer.MAX_VALUE}) {
            due("fewest " + n, x().fewest(n), -1);
            due("chain " + n, x().chain(n, 0), -1);
            due("chains " + n, x().chains(n), -1);
        }
        for (int low = -1; low <= 122; low++) {
            for (int high = -1; high <= 122; high++) {
                int want = -1;
                if (low >= 1 && high <= 120 && low <= high && high - low <= 20) {
                    want = low;
                    for (int n = low; n <= high; n++) {
                        want = fewest[n] > fewest[want] ? n : want;
                    }
                }
                due("hardest " + low + " " + high, x().hardest(low, high), want);
            }
        }
        due("hardest far", x().hardest(Integer.MIN_VALUE, Integer.MAX_VALUE), -1);
        due("hardest far", x().hardest(Integer.MAX_VALUE, Integer.MIN_VALUE), -1);
        due("hardest far", x().hardest(1, Integer.MIN_VALUE), -1);
        for (int j = 0; j <= 9; j++) {
            int n = 1;
            while (fewest[n] < j) {
                n++;
            }
            due("first " + j, x().first(j), n);
        }
        due("first", x().first(-1), -1);
        due("first", x().first(10), -1);
    }

    private static void ways() {
        Random draws = new Random(7);
        for (int i = 1; i <= 4000; i++) {
            int n = i <= 2000 ? i : 1 + draws.nextInt(1000000);
            due("halves " + n, x().halves(n), Brute.halves(n));
            due("parts " + n, x().parts(n), i % 10 > 0 && i > 2000 ? x().parts(n) : Brute.parts(n));
        }
        for (int n : new int[] {999983, 999999, 1000000, 994009, 524287, 786431, 839999}) {
            due("halves " + n, x().halves(n), Brute.halves(n));
            due("parts " + n, x().parts(n), Brute.parts(n));
        }
        for (int n : new int[] {0, -1, 1000001, Integer.MIN_VALUE, Integer.MAX_VALUE}) {
            due("halves " + n, x().halves(n), -1);
            due("parts " + n, x().parts(n), -1);
        }
    }

    private static void costs() {
        for (int n = 1; n <= 40; n++) {
            for (int t = 1; t <= 9; t++) {
                for (int j = 1; j <= 9; j++) {
                    due("cost " + n + " " + t + " " + j, x().cost(n, t, j), Brute.cost(n, t, j));
                }
            }
        }
        int[][] others = {{0, 1, 1}, {41, 1, 1}, {5, 0, 1}, {5, 10, 1}, {5, 1, 0}, {5, 1, 10},
            {-1, -1, -1}, {Integer.MAX_VALUE, 1, 1}};
        for (int[] o : others) {
            due("cost " + o[0] + " " + o[1] + " " + o[2], x().cost(o[0], o[1], o[2]), -1);
        }
    }

    private static void crocksAndSpoons() {
        for (int crocks = 1; crocks <= 3; crocks++) {
            int[] want = Brute.few(crocks);
            for (int n = 1; n <= 40; n++) {
                due("few " + n + " " + crocks, x().few(n, crocks), want[n]);
                due("few again", x().few(n, crocks), want[n]);
            }
        }
        int[][] others = {{0, 1}, {0, 2}, {41, 1}, {41, 2}, {41, 3}, {5, 0}, {5, 4}, {-1, 2},
            {Integer.MAX_VALUE, 2}, {2, Integer.MIN_VALUE}};
        for (int[] o : others) {
            due("few " + o[0] + " " + o[1], x().few(o[0], o[1]), -1);
        }
        int[] want = Brute.spoons();
        for (int n = 1; n <= 40; n++) {
            due("spoons " + n, x().spoons(n), want[n]);
        }
        due("spoons", x().spoons(0), -1);
        due("spoons", x().spoons(41), -1);
        for (int r = -1; r <= 10; r++) {
            for (int w = -1; w <= 10; w++) {
                boolean other = r < 0 || r > 9 || w < 0 || w > 9 || r == 0 && w == 0;
                due("both " + r + " " + w, x().both(r, w), other ? -1 : Brute.both(r, w));
            }
        }
    }

    private static void orders() {
        Random draws = new Random(11);
        LeavenHouse x = new LeavenHouse();
        for (int round = 0; round < 400; round++) {
            if (round % 20 == 0) {
                x = new LeavenHouse();
            }
            List<Integer> orders = new ArrayList<>();
            int count = 1 + draws.nextInt(4);
            for (int i = 0; i < count; i++) {
                int n = 1 + draws.nextInt(round % 3 == 0 ? 12 : 40);
                orders.add(n);
                due("order", x.order(n), i + 1);
            }
            List<Integer> want = Brute.lowestWith(orders);
            due("made " + orders, x.made(-1), want.size() - 1);
            for (int i = 0; i <= want.size(); i++) {
                due("made " + orders + " " + i, x.made(i), i < want.size() ? want.get(i) : -2);
            }
            due("made", x.made(-2), -2);
            due("made", x.made(Integer.MAX_VALUE), -2);
            due("order", x.order(-1), 0);
            due("made", x.made(0), 1);
            due("made", x.made(-1), 0);
        }
    }

    /** All sets of up to four orders, told from the lowest or from the highest on. */
    private static void allOrders() {
        for (int a = 2; a <= 40; a++) {
            ordered(a);
            for (int b = a + 1; b <= 40; b++) {
                ordered(a, b);
                for (int c = b + 1; c <= 40; c++) {
                    ordered(a, b, c);
                    for (int d = c + 1; d <= 40; d++) {
                        ordered(a, b, c, d);
                    }
                }
            }
        }
    }

    private static void ordered(int... wanted) {
        if (used > MOST_CALLS - 30) {
            used = MOST_CALLS;
        }
        x().order(-1);
        boolean up = wanted[0] % 2 == 0;
        for (int i = 0; i < wanted.length; i++) {
            x().order(wanted[up ? i : wanted.length - 1 - i]);
        }
        int[] want = Brute.lowestOf(wanted);
        due("made of all", x().made(-1), want.length - 1);
        for (int i = 0; i <= want.length; i++) {
            due("made of all, " + i, x().made(i), i < want.length ? want[i] : -2);
        }
    }

    private static void reached() {
        for (int j = 0; j <= 6; j++) {
            List<Integer> want = new ArrayList<>(new TreeSet<>(Brute.reached(j)));
            due("reach " + j, x().reach(j), want.size());
            for (int i = -1; i <= want.size() + 1; i++) {
                due("reached " + j + " " + i, x().reached(j, i),
                        i >= 0 && i < want.size() ? want.get(i) : -1);
            }
        }
        for (int j : new int[] {-1, 7, Integer.MIN_VALUE, Integer.MAX_VALUE}) {
            due("reach " + j, x().reach(j), -1);
            due("reached " + j, x().reached(j, 0), -1);
        }
    }

    private static void games() {
        for (int n = 2; n <= 12; n++) {
            int want = Brute.play(List.of(1), n);
            due("game " + n, x().game(n), want == -1 ? 0 : 1);
            due("play " + n, x().play(n), want);
        }
        for (int n : new int[] {1, 0, -1, 13, Integer.MAX_VALUE}) {
            due("game " + n, x().game(n), -1);
            due("play " + n, x().play(n), -1);
        }
    }
}
