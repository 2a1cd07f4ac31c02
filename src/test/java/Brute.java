import java.util.ArrayDeque;
import java.util.ArrayList;
import java.util.Arrays;
import java.util.HashMap;
import java.util.HashSet;
import java.util.List;
import java.util.Map;
import java.util.Set;
import java.util.TreeSet;

/** What the document says of chains, by plain search of all there is. */
final class Brute {
    private static final Map<Set<Integer>, List<Integer>> LOWEST = new HashMap<>();

    /** All shortest chains (the lowest first) in which the numbers are, ending with the greatest. */
    static List<List<Integer>> shortest(List<Integer> numbers) {
        TreeSet<Integer> wanted = new TreeSet<>(numbers);
        for (int joinings = 0;; joinings++) {
            List<List<Integer>> found = new ArrayList<>();
            grow(new ArrayList<>(List.of(1)), joinings, wanted, found);
            if (!found.isEmpty()) {
                return found;
            }
        }
    }

    static List<Integer> lowestWith(List<Integer> numbers) {
        return LOWEST.computeIfAbsent(new TreeSet<>(numbers), k -> shortest(numbers).get(0));
    }

    private static void grow(List<Integer> chain, int left, TreeSet<Integer> wanted,
            List<List<Integer>> found) {
        int last = chain.get(chain.size() - 1);
        int goal = wanted.last();
        if (left == 0) {
            if (last == goal && chain.containsAll(wanted)) {
                found.add(new ArrayList<>(chain));
            }
            return;
        }
        if ((long) last << left < goal) {
            return;
        }
        for (int v : sums(chain)) {
            if (v > last && v <= goal) {
                chain.add(v);
                grow(chain, left - 1, wanted, found);
                chain.remove(chain.size() - 1);
            }
        }
    }

    /** The lowest shortest chain in which these numbers (each above the one ahead) are. */
    static int[] lowestOf(int... wanted) {
        for (int joinings = 0;; joinings++) {
            int[] chain = new int[joinings + 1];
            chain[0] = 1;
            if (goesOn(chain, 0, wanted, 0)) {
                return chain;
            }
        }
    }

    private static boolean goesOn(int[] chain, int k, int[] wanted, int met) {
        if (k == chain.length - 1 || met == wanted.length) {
            return k == chain.length - 1 && met == wanted.length;
        }
        int left = chain.length - 1 - k;
        if ((long) chain[k] << left < wanted[wanted.length - 1] || left < wanted.length - met) {
            return false;
        }
        boolean[] sums = new boolean[wanted[met] + 1];
        for (int a = 0; a <= k; a++) {
            for (int b = 0; b <= a && chain[a] + chain[b] < sums.length; b++) {
                sums[chain[a] + chain[b]] = true;
            }
        }
        for (int v = chain[k] + 1; v < sums.length; v++) {
            if (sums[v]) {
                chain[k + 1] = v;
                if (goesOn(chain, k + 1, wanted, v == wanted[met] ? met + 1 : met)) {
                    return true;
                }
            }
        }
        return false;
    }

    static TreeSet<Integer> sums(List<Integer> chain) {
        TreeSet<Integer> sums = new TreeSet<>();
        for (int a : chain) {
            for (int b : chain) {
                sums.add(a + b);
            }
        }
        return sums;
    }

    /** The last numbers of all chains of just so many joinings. */
    static TreeSet<Integer> reached(int joinings) {
        TreeSet<Integer> ends = new TreeSet<>();
        ends(new ArrayList<>(List.of(1)), joinings, ends);
        return ends;
    }

    private static void ends(List<Integer> chain, int left, TreeSet<Integer> ends) {
        int last = chain.get(chain.size() - 1);
        if (left == 0) {
            ends.add(last);
            return;
        }
        for (int v : sums(chain).tailSet(last, false)) {
            chain.add(v);
            ends(chain, left - 1, ends);
            chain.remove(chain.size() - 1);
        }
    }

    static int halves(int n) {
        return n == 1 ? 0 : n % 2 == 0 ? 1 + halves(n / 2) : 1 + halves(n - 1);
    }

    static int parts(int n) {
        if (n == 1) {
            return 0;
        }
        int p = 2;
        while (n % p != 0) {
            p++;
        }
        return p == n ? 1 + parts(n - 1) : parts(p) + parts(n / p);
    }

    /** The least cost: chains are grown till they can't be cheaper than the best. */
    static int cost(int n, int twice, int joined) {
        int[] best = {1000};
        costs(new ArrayList<>(List.of(1)), n, twice, joined, 0, best);
        return best[0];
    }

    private static void costs(List<Integer> chain, int n, int twice, int joined, int paid,
            int[] best) {
        int last = chain.get(chain.size() - 1);
        if (last == n) {
            best[0] = Math.min(best[0], paid);
            return;
        }
        int steps = 32 - Integer.numberOfLeadingZeros((n - 1) / last);
        if (paid + steps * Math.min(twice, joined) >= best[0]) {
            return;
        }
        for (int v : sums(chain).tailSet(last, false).descendingSet()) {
            if (v > n) {
                continue;
            }
            boolean dbl = v % 2 == 0 && chain.contains(v / 2);
            boolean sum = false;
            for (int a : chain) {
                sum |= a * 2 != v && chain.contains(v - a);
            }
            int price = dbl && sum ? Math.min(twice, joined) : dbl ? twice : joined;
            chain.add(v);
            costs(chain, n, twice, joined, paid + price, best);
            chain.remove(chain.size() - 1);
        }
    }

    /** The fewest joinings by so many crocks, for all numbers to 40 (NONE: no way). */
    static int[] few(int crocks) {
        int[] best = new int[41];
        Arrays.fill(best, -1);
        int[] first = new int[crocks];
        first[0] = 1;
        Map<List<Integer>, Integer> seen = new HashMap<>();
        ArrayDeque<int[]> queue = new ArrayDeque<>();
        queue.add(first);
        seen.put(key(first), 0);
        while (!queue.isEmpty()) {
            int[] now = queue.poll();
            int joinings = seen.get(key(now));
            for (int v : now) {
                if (v > 0 && best[v] < 0) {
                    best[v] = joinings;
                }
            }
            for (int a = 0; a < crocks; a++) {
                for (int b = 0; b < crocks; b++) {
                    for (int into = 0; into < crocks; into++) {
                        int sum = now[a] + now[b];
                        if (now[a] == 0 || now[b] == 0 || sum > 40) {
                            continue;
                        }
                        int[] next = now.clone();
                        next[into] = sum;
                        if (seen.putIfAbsent(key(next), joinings + 1) == null) {
                            queue.add(next);
                        }
                    }
                }
            }
        }
        return best;
    }

    private static List<Integer> key(int[] row) {
        int[] sorted = row.clone();
        Arrays.sort(sorted);
        List<Integer> list = new ArrayList<>();
        for (int v : sorted) {
            list.add(v);
        }
        return list;
    }

    /** Numbers 1 .. 80 as bits. */
    private record Bowl(long low, long high) {
        boolean has(int v) {
            return ((v < 64 ? low >>> v : high >>> (v - 64)) & 1) == 1;
        }

        Bowl with(int v) {
            return v < 64 ? new Bowl(low | 1L << v, high) : new Bowl(low, high | 1L << (v - 64));
        }
    }

    /** The fewest further numbers with spoons, for all numbers to 40, level by level of sets. */
    static int[] spoons() {
        int[] best = new int[41];
        Arrays.fill(best, -1);
        best[1] = 0;
        Set<Bowl> level = new HashSet<>(Set.of(new Bowl(2, 0)));
        for (int further = 1; further <= 7; further++) {
            Set<Bowl> next = new HashSet<>();
            for (Bowl bowl : level) {
                for (int a = 1; a <= 80; a++) {
                    for (int b = 1; bowl.has(a) && b <= a; b++) {
                        for (int v : bowl.has(b) ? new int[] {a + b, a - b} : new int[0]) {
                            if (v < 1 || v > 80 || bowl.has(v)) {
                                continue;
                            }
                            if (v <= 40 && best[v] < 0) {
                                best[v] = further;
                            }
                            // The last level is only looked at, as it would fill the memory.
                            if (further < 7) {
                                next.add(bowl.with(v));
                            }
                        }
                    }
                }
            }
            level = next;
        }
        return best;
    }

    /** The fewest further ones to so much rye and wheat. */
    static int both(int rye, int wheat) {
        List<int[]> first = new ArrayList<>(List.of(new int[] {1, 0}, new int[] {0, 1}));
        for (int further = 0;; further++) {
            if (mixes(first, further, rye, wheat)) {
                return further;
            }
        }
    }

    private static boolean mixes(List<int[]> there, int left, int rye, int wheat) {
        for (int[] v : there) {
            if (v[0] == rye && v[1] == wheat) {
                return true;
            }
        }
        if (left == 0) {
            return false;
        }
        for (int i = 0; i < there.size(); i++) {
            for (int j = i; j < there.size(); j++) {
                int r = there.get(i)[0] + there.get(j)[0];
                int w = there.get(i)[1] + there.get(j)[1];
                if (r > rye || w > wheat) {
                    continue;
                }
                there.add(new int[] {r, w});
                boolean found = mixes(there, left - 1, rye, wheat);
                there.remove(there.size() - 1);
                if (found) {
                    return true;
                }
            }
        }
        return false;
    }

    /** The lowest number by which the one whose turn it is wins, or NONE. */
    static int play(List<Integer> chain, int n) {
        int last = chain.get(chain.size() - 1);
        for (int v : sums(chain).tailSet(last, false)) {
            if (v > n) {
                break;
            }
            List<Integer> more = new ArrayList<>(chain);
            more.add(v);
            if (v == n || play(more, n) == -1) {
                return v;
            }
        }
        return -1;
    }
}
