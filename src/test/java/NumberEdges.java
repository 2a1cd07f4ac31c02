import java.util.List;

/** The edges of III and IV: what is foretold, chains, costs, orders, a chain told, the game. */
final class NumberEdges {
    private static final int[] FAR = {Edges.MIN, Edges.MIN + 1, -1000000, -2, Edges.MAX - 1, Edges.MAX};

    private NumberEdges() {
    }

    static void run() {
        foretold();
        foretoldAtTheLastDays();
        foretoldIsAsDaysPass();
        fewest();
        lowestChains();
        howManyChains();
        halves();
        parts();
        hardest();
        costs();
        costsOfBothKinds();
        fewCrocks();
        spoons();
        bothLeavens();
        orders();
        allMade();
        reached();
        first();
        told();
        wrong();
        needless();
        stars();
        steps();
        games();
    }

    private static int joinings(int n) {
        return Brute.lowestWith(List.of(n)).size() - 1;
    }

    private static void foretold() {
        Edges.term("FORETOLD behind n DAYS (1 .. 60; those that can pass), nothing else being done");
        LeavenHouse x = Edges.ruled("tires 10;");
        Edges.fill(x);
        Edges.due("foretold(0, 7)", x.foretold(0, 7), -1);
        Edges.due("foretold(1, 7)", x.foretold(1, 7), 64);
        Edges.due("foretold(7, 7)", x.foretold(7, 7), 1);
        Edges.due("foretold(8, 7)", x.foretold(8, 7), 0);
        Edges.due("foretold(60, 7)", x.foretold(60, 7), 0);
        Edges.due("foretold(61, 7)", x.foretold(61, 7), -1);
        Edges.promise(17, "FORETOLD: POUNDS. NONE for others");
        Edges.due("foretold(1, 0)", x.foretold(1, 0), 0);
        Edges.due("foretold(1, -1)", x.foretold(1, -1), -1);
        Edges.due("foretold(1, 8)", x.foretold(1, 8), -1);
        Edges.due("foretold(0, 8)", x.foretold(0, 8), -1);
        for (int far : FAR) {
            Edges.due("foretold(" + far + ", 0)", x.foretold(far, 0), -1);
            Edges.due("foretold(1, " + far + ")", x.foretold(1, far), -1);
        }
        Edges.due("of(7, 0)", x.of(7, 0), 128);
    }

    private static void foretoldAtTheLastDays() {
        Edges.term("FORETOLD behind n DAYS (1 .. 60; those that can pass)");
        int[] behind = {1, 2, 3, 60};
        for (int day = 9997; day <= 9999; day++) {
            LeavenHouse x = Edges.at(day);
            Edges.fill(x);
            Edges.rule(x, "tires 10;");
            for (int n : behind) {
                int days = Math.min(n, 9999 - day);
                Edges.due("foretold(" + n + ", 7) at " + day, x.foretold(n, 7), 128 >> days);
            }
        }
    }

    private static void foretoldIsAsDaysPass() {
        Edges.term("nothing else being done");
        LeavenHouse x = Edges.ruled("tires age/4+odd+full/5+day/7;");
        Edges.fill(x);
        x.years(99, 3);
        List<Long> before = Edges.all(x);
        int[] then = new int[8];
        for (int i = 0; i < 8; i++) {
            then[i] = x.foretold(11, i);
        }
        Edges.like("nothing is done", Edges.all(x), before);
        x.day(11);
        for (int i = 0; i < 8; i++) {
            Edges.due("POUNDS of " + i, then[i], x.of(i, 0));
        }
    }

    private static void fewest() {
        Edges.term("FEWEST joinings of n (of 1: 0; so are a COST, BY FEW CROCKS, WITH SPOONS of 1)");
        LeavenHouse x = new LeavenHouse();
        Edges.due("fewest(1)", x.fewest(1), 0);
        Edges.due("cost(1, 1, 1)", x.cost(1, 1, 1), 0);
        Edges.due("cost(1, 9, 9)", x.cost(1, 9, 9), 0);
        for (int crocks = 1; crocks <= 3; crocks++) {
            Edges.due("few(1, " + crocks + ")", x.few(1, crocks), 0);
        }
        Edges.due("spoons(1)", x.spoons(1), 0);
        Edges.term("A CHAIN of n: numbers from 1 on, each more than the one ahead of it and the sum of two ahead of it (of one and itself, too), the last n; joinings: how many are behind 1");
        Edges.due("of one and itself", x.fewest(2), 1);
        Edges.due("of two", x.fewest(3), 2);
        Edges.due("no more than twice", x.fewest(65), 7);
        Edges.promise(18, "FEWEST. NONE for others (1 .. 120)");
        for (int n : new int[] {1, 2, 3, 63, 64, 65, 119, 120}) {
            Edges.due("fewest(" + n + ")", x.fewest(n), joinings(n));
        }
        Edges.due("fewest(0)", x.fewest(0), -1);
        Edges.due("fewest(-1)", x.fewest(-1), -1);
        Edges.due("fewest(121)", x.fewest(121), -1);
        for (int far : FAR) {
            Edges.due("fewest(" + far + ")", x.fewest(far), -1);
        }
    }

    private static void lowestChains() {
        Edges.term("THE CHAIN: the lowest of them (by the second number, then the third, ..): the i-th number (0: 1)");
        LeavenHouse x = new LeavenHouse();
        for (int n : new int[] {1, 2, 3, 7, 64, 71, 119, 120}) {
            List<Integer> chain = Brute.lowestWith(List.of(n));
            Edges.promise(19, "THE CHAIN: the i-th number. NONE: there is none such, and for others (likewise)");
            Edges.due("chain(" + n + ", -1)", x.chain(n, -1), -1);
            for (int i = 0; i < chain.size(); i++) {
                Edges.due("chain(" + n + ", " + i + ")", x.chain(n, i), chain.get(i));
            }
            Edges.due("behind the last of " + n, x.chain(n, chain.size()), -1);
            for (int far : FAR) {
                Edges.due("chain(" + n + ", " + far + ")", x.chain(n, far), -1);
            }
        }
        for (int n : new int[] {0, -1, 121, Edges.MIN, Edges.MAX}) {
            Edges.due("chain(" + n + ", 0)", x.chain(n, 0), -1);
            Edges.due("chain(" + n + ", -1)", x.chain(n, -1), -1);
        }
    }

    private static void howManyChains() {
        Edges.term("CHAINS: how many there are with so few");
        LeavenHouse x = new LeavenHouse();
        // 1 2 3 5 and 1 2 4 5; a longer one (1 2 3 4 5) doesn't count.
        Edges.due("chains(5)", x.chains(5), 2);
        Edges.promise(20, "CHAINS: how many. NONE for others (likewise)");
        for (int n : new int[] {1, 2, 3, 4, 5, 7, 64, 71, 119, 120}) {
            Edges.due("chains(" + n + ")", x.chains(n), Brute.shortest(List.of(n)).size());
        }
        Edges.due("chains(0)", x.chains(0), -1);
        Edges.due("chains(-1)", x.chains(-1), -1);
        Edges.due("chains(121)", x.chains(121), -1);
        for (int far : FAR) {
            Edges.due("chains(" + far + ")", x.chains(far), -1);
        }
    }

    private static void halves() {
        Edges.term("BY HALVES: of 1: 0; of an even n: 1 and as of half of it; of an odd one: 1 and as of one less");
        LeavenHouse x = new LeavenHouse();
        Edges.due("halves(1)", x.halves(1), 0);
        Edges.due("halves(2)", x.halves(2), 1);
        Edges.due("halves(3)", x.halves(3), 2);
        Edges.due("halves(4)", x.halves(4), 2);
        Edges.due("halves(524287)", x.halves(524287), 36);
        Edges.due("halves(524288)", x.halves(524288), 19);
        Edges.due("halves(524289)", x.halves(524289), 20);
        Edges.promise(21, "BY HALVES. NONE for others (1 .. 1000000)");
        Edges.due("halves(999999)", x.halves(999999), Brute.halves(999999));
        Edges.due("halves(1000000)", x.halves(1000000), Brute.halves(1000000));
        Edges.due("halves(1000001)", x.halves(1000001), -1);
        Edges.due("halves(0)", x.halves(0), -1);
        Edges.due("halves(-1)", x.halves(-1), -1);
        for (int far : FAR) {
            Edges.due("halves(" + far + ")", x.halves(far), -1);
        }
    }

    private static void parts() {
        Edges.term("BY PARTS: of 1: 0; of a prime: 1 and as of one less; else as of the least prime in it and as of the rest together");
        LeavenHouse x = new LeavenHouse();
        Edges.due("parts(1)", x.parts(1), 0);
        Edges.due("parts(2)", x.parts(2), 1);
        Edges.due("parts(3)", x.parts(3), 2);
        Edges.due("parts(4)", x.parts(4), 2);
        Edges.due("parts(9)", x.parts(9), 4);
        // 33 is 3 and 11: 2 and 1 + (10: 1 + 3).
        Edges.due("parts(33)", x.parts(33), 7);
        // 997 is the greatest prime whose square (994009) is in it; 999983 is the greatest prime.
        for (int n : new int[] {994008, 994009, 999983, 999982, 524288, 531441, 510510, 999999}) {
            Edges.due("parts(" + n + ")", x.parts(n), Brute.parts(n));
        }
        Edges.promise(22, "BY PARTS. NONE for others (likewise)");
        Edges.due("parts(1000000)", x.parts(1000000), 24);
        Edges.due("parts(1000001)", x.parts(1000001), -1);
        Edges.due("parts(0)", x.parts(0), -1);
        Edges.due("parts(-1)", x.parts(-1), -1);
        for (int far : FAR) {
            Edges.due("parts(" + far + ")", x.parts(far), -1);
        }
    }

    private static void hardest() {
        Edges.term("HARDEST: of numbers from low to high the one that needs most joinings; of like ones the lowest");
        LeavenHouse x = new LeavenHouse();
        Edges.due("hardest(7, 10)", x.hardest(7, 10), 7);
        Edges.due("hardest(8, 10)", x.hardest(8, 10), 9);
        Edges.due("hardest(8, 8)", x.hardest(8, 8), 8);
        Edges.due("hardest(70, 71)", x.hardest(70, 71), 71);
        Edges.due("hardest(71, 72)", x.hardest(71, 72), 71);
        Edges.promise(23, "HARDEST. NONE for others (1 .. 120; 20 more at most)");
        Edges.due("hardest(1, 1)", x.hardest(1, 1), 1);
        Edges.due("hardest(1, 21)", x.hardest(1, 21), 19);
        Edges.due("hardest(1, 22)", x.hardest(1, 22), -1);
        Edges.due("hardest(0, 1)", x.hardest(0, 1), -1);
        Edges.due("hardest(0, 0)", x.hardest(0, 0), -1);
        Edges.due("hardest(120, 120)", x.hardest(120, 120), 120);
        Edges.due("hardest(120, 121)", x.hardest(120, 121), -1);
        Edges.due("hardest(121, 121)", x.hardest(121, 121), -1);
        Edges.due("hardest(99, 120)", x.hardest(99, 120), -1);
        int hardest = 100;
        for (int n = 100; n <= 120; n++) {
            hardest = joinings(n) > joinings(hardest) ? n : hardest;
        }
        Edges.due("hardest(100, 120)", x.hardest(100, 120), hardest);
        Edges.due("hardest(2, 1)", x.hardest(2, 1), -1);
        Edges.due("hardest(120, 100)", x.hardest(120, 100), -1);
        for (int far : FAR) {
            Edges.due("hardest(" + far + ", 5)", x.hardest(far, 5), -1);
            Edges.due("hardest(5, " + far + ")", x.hardest(5, far), -1);
        }
        Edges.due("hardest(MIN, MAX)", x.hardest(Edges.MIN, Edges.MAX), -1);
        Edges.due("hardest(MAX, MIN)", x.hardest(Edges.MAX, Edges.MIN), -1);
    }

    private static void costs() {
        Edges.promise(24, "A COST. NONE for others (1 .. 40; 1 .. 9 each)");
        LeavenHouse x = new LeavenHouse();
        int[] edges = {0, 1, 9, 10};
        for (int n : new int[] {0, 1, 2, 39, 40, 41}) {
            for (int twice : edges) {
                for (int joined : edges) {
                    boolean told = n >= 1 && n <= 40 && twice % 10 > 0 && joined % 10 > 0;
                    Edges.due("cost(" + n + ", " + twice + ", " + joined + ")",
                            x.cost(n, twice, joined), told ? Brute.cost(n, twice, joined) : -1);
                }
            }
        }
        for (int far : FAR) {
            Edges.due("cost(" + far + ", 1, 1)", x.cost(far, 1, 1), -1);
            Edges.due("cost(5, " + far + ", 1)", x.cost(5, far, 1), -1);
            Edges.due("cost(5, 1, " + far + ")", x.cost(5, 1, far), -1);
        }
    }

    private static void costsOfBothKinds() {
        Edges.term("each number that is twice one ahead of it costing the one sum, any other one the other sum (twice, if it can be both: the less of them)");
        LeavenHouse x = new LeavenHouse();
        // 2 is 1 twice and nothing else; 3 is a sum; 4 behind 3 is both.
        Edges.due("cost(2, 9, 1)", x.cost(2, 9, 1), 9);
        Edges.due("cost(2, 1, 9)", x.cost(2, 1, 9), 1);
        Edges.due("cost(3, 1, 9)", x.cost(3, 1, 9), 10);
        Edges.due("cost(3, 9, 1)", x.cost(3, 9, 1), 10);
        Edges.due("cost(4, 9, 1)", x.cost(4, 9, 1), 11);
        Edges.due("cost(4, 1, 9)", x.cost(4, 1, 9), 2);
        Edges.term("A COST: of all CHAINS the least together");
        // 1 2 4 8 would be 9 for each; 1 2 3 5 8 has one joining more.
        Edges.due("cost(8, 9, 1)", x.cost(8, 9, 1), 12);
        Edges.due("cost(8, 1, 9)", x.cost(8, 1, 9), 3);
        Edges.due("cost(8, 3, 3)", x.cost(8, 3, 3), 9);
        Edges.due("cost(40, 9, 1)", x.cost(40, 9, 1), Brute.cost(40, 9, 1));
        Edges.due("cost(40, 1, 9)", x.cost(40, 1, 9), 14);
        Edges.due("cost(32, 1, 9)", x.cost(32, 1, 9), 5);
        Edges.due("cost(39, 5, 5)", x.cost(39, 5, 5), 5 * joinings(39));
    }

    private static void fewCrocks() {
        Edges.term("BY FEW CROCKS: so many in all, 1 in one at first: each joining needs one to stand in");
        LeavenHouse x = new LeavenHouse();
        int[][] due = {{}, Brute.few(1), Brute.few(2), Brute.few(3)};
        Edges.promise(25, "BY FEW CROCKS. NONE: no way, and for others (1 .. 40; 1 .. 3)");
        for (int n = 0; n <= 41; n++) {
            for (int crocks = 0; crocks <= 4; crocks++) {
                boolean told = n >= 1 && n <= 40 && crocks >= 1 && crocks <= 3;
                Edges.due("few(" + n + ", " + crocks + ")", x.few(n, crocks),
                        told ? due[crocks][n] : -1);
            }
        }
        Edges.term("one without any, or one whose dough is poured away as it is done (maybe one of the two joined; one joining each): the fewest joinings till n stands there; no way");
        // One crock only doubles: 2, 4 .. 32, and no way to others.
        Edges.due("few(32, 1)", x.few(32, 1), 5);
        Edges.due("few(31, 1)", x.few(31, 1), -1);
        Edges.due("few(33, 1)", x.few(33, 1), -1);
        Edges.due("few(3, 1)", x.few(3, 1), -1);
        Edges.due("few(3, 2)", x.few(3, 2), 2);
        for (int far : FAR) {
            Edges.due("few(" + far + ", 2)", x.few(far, 2), -1);
            Edges.due("few(2, " + far + ")", x.few(2, far), -1);
        }
        Edges.due("few(-1, 2)", x.few(-1, 2), -1);
        Edges.due("few(2, -1)", x.few(2, -1), -1);
    }

    private static void spoons() {
        Edges.term("WITH SPOONS: numbers 1 .. 80, at first 1; each further one is the sum or the difference (1 or more) of two there");
        LeavenHouse x = new LeavenHouse();
        // 31 is 32 less 1, by one less than with joinings alone.
        Edges.due("spoons(31)", x.spoons(31), 6);
        Edges.due("fewest(31)", x.fewest(31), 7);
        Edges.term("(of one and itself, too): the fewest further ones till n is there");
        Edges.due("of one and itself", x.spoons(2), 1);
        Edges.promise(26, "WITH SPOONS. NONE for others (1 .. 40)");
        Edges.due("spoons(0)", x.spoons(0), -1);
        Edges.due("spoons(1)", x.spoons(1), 0);
        Edges.due("spoons(2)", x.spoons(2), 1);
        Edges.due("spoons(32)", x.spoons(32), 5);
        int[] due = Brute.spoons();
        for (int n = 1; n <= 40; n++) {
            Edges.due("spoons(" + n + ")", x.spoons(n), due[n]);
        }
        Edges.due("spoons(41)", x.spoons(41), -1);
        Edges.due("spoons(-1)", x.spoons(-1), -1);
        for (int far : FAR) {
            Edges.due("spoons(" + far + ")", x.spoons(far), -1);
        }
    }

    private static void bothLeavens() {
        Edges.term("OF BOTH: one of rye and one of wheat at first; each further one is two there together: the fewest further ones till so much rye and wheat is there (1, 0 and 0, 1: 0)");
        LeavenHouse x = new LeavenHouse();
        Edges.due("both(1, 0)", x.both(1, 0), 0);
        Edges.due("both(0, 1)", x.both(0, 1), 0);
        Edges.due("both(1, 1)", x.both(1, 1), 1);
        Edges.due("both(2, 0)", x.both(2, 0), 1);
        Edges.promise(27, "OF BOTH. NONE for others (0 .. 9 each, not both 0)");
        Edges.due("both(0, 0)", x.both(0, 0), -1);
        for (int[] told : new int[][] {{9, 0}, {0, 9}, {9, 9}, {9, 1}, {1, 9}, {8, 9}, {7, 9}}) {
            Edges.due("both(" + told[0] + ", " + told[1] + ")", x.both(told[0], told[1]),
                    Brute.both(told[0], told[1]));
        }
        for (int other : new int[] {-1, 10, Edges.MIN, Edges.MAX, -9}) {
            for (int told = 0; told <= 9; told += 3) {
                Edges.due("both(" + other + ", " + told + ")", x.both(other, told), -1);
                Edges.due("both(" + told + ", " + other + ")", x.both(told, other), -1);
            }
            Edges.due("both(" + other + ", " + other + ")", x.both(other, other), -1);
            Edges.due("both(" + other + ", " + -other + ")", x.both(other, -other), -1);
        }
    }

    private static void orders() {
        Edges.term("ORDERS (4 at most; told, the same maybe twice)");
        LeavenHouse x = new LeavenHouse();
        for (int i = 1; i <= 4; i++) {
            Edges.due("order(7)", x.order(7), i);
        }
        Edges.promise(28, "AN ORDER: how many there are (n NONE: none any more). -2 for others (1 .. 40), or if there are 4");
        Edges.due("order(7)", x.order(7), -2);
        Edges.due("order(0)", x.order(0), -2);
        Edges.due("about(3)", x.about(3), 4);
        Edges.due("made(-1)", x.made(-1), 4);
        Edges.due("order(-1)", x.order(-1), 0);
        Edges.due("about(3)", x.about(3), 0);
        Edges.due("order(-1)", x.order(-1), 0);
        Edges.due("order(0)", x.order(0), -2);
        Edges.due("order(1)", x.order(1), 1);
        Edges.due("order(40)", x.order(40), 2);
        Edges.due("order(41)", x.order(41), -2);
        for (int far : FAR) {
            Edges.due("order(" + far + ")", x.order(far), -2);
        }
        Edges.due("about(3)", x.about(3), 2);
        Edges.due("the last is 40", x.made(x.made(-1)), 40);
    }

    private static void allMade() {
        Edges.term("ALL MADE: the fewest joinings by a CHAIN (its last the greatest ORDER) in which all of them are");
        LeavenHouse x = new LeavenHouse();
        x.order(8);
        x.order(7);
        // 1 2 3 4 7 8: 8 alone would take three.
        Edges.due("made(-1)", x.made(-1), 5);
        Edges.due("the last is the greatest", x.made(5), 8);
        Edges.due("the lowest", x.made(2), 3);
        Edges.term("the lowest such (by the second number, ..): the i-th (without ORDERS 1 alone)");
        Edges.promise(29, "ALL MADE: by how many joinings (i NONE), the i-th number of the lowest. -2: there is none such, and for others");
        int[][] rows = {{}, {1}, {1, 1, 1, 1}, {2}, {40}, {40, 39}, {40, 39, 38, 37}, {7, 7},
            {5, 7, 9, 11}, {7, 5}, {7}, {}, {7, 5, 9}, {7, 5}, {7, 4}, {9, 4}, {1, 40, 1, 23},
            {31, 33, 35, 37}, {29, 31, 37, 39}};
        for (int[] row : rows) {
            x.order(-1);
            for (int n : row) {
                x.order(n);
            }
            List<Integer> wanted = new java.util.ArrayList<>(List.of(1));
            for (int n : row) {
                wanted.add(n);
            }
            List<Integer> due = Brute.lowestWith(wanted);
            Edges.due("made(-1) of " + wanted, x.made(-1), due.size() - 1);
            for (int i = 0; i < due.size(); i++) {
                Edges.due("made(" + i + ") of " + wanted, x.made(i), due.get(i));
            }
            Edges.due("behind the last of " + wanted, x.made(due.size()), -2);
            for (int far : FAR) {
                Edges.due("made(" + far + ")", x.made(far), -2);
            }
        }
    }

    private static void reached() {
        Edges.term("REACHED: numbers that are the last of some CHAIN of just so many joinings: how many; the i-th");
        LeavenHouse x = new LeavenHouse();
        for (int j = 0; j <= 6; j++) {
            List<Integer> due = List.copyOf(Brute.reached(j));
            Edges.promise(30, "REACHED: how many numbers. NONE for others (0 .. 6)");
            Edges.due("reach(" + j + ")", x.reach(j), due.size());
            Edges.promise(31, "The i-th number REACHED. NONE: there is none such, and for others");
            Edges.due("the lowest", x.reached(j, 0), j + 1);
            Edges.due("the highest", x.reached(j, due.size() - 1), 1 << j);
            Edges.due("behind the last", x.reached(j, due.size()), -1);
            Edges.due("ahead of the first", x.reached(j, -1), -1);
            Edges.term("What is REACHED is told from the lowest on");
            for (int i = 0; i < due.size(); i++) {
                Edges.due("reached(" + j + ", " + i + ")", x.reached(j, i), due.get(i));
            }
            Edges.promise(31, "The i-th number REACHED. NONE: there is none such, and for others");
            for (int far : FAR) {
                Edges.due("reached(" + j + ", " + far + ")", x.reached(j, far), -1);
            }
        }
        for (int j : new int[] {-1, 7, Edges.MIN, Edges.MAX, 31, 32, 33}) {
            Edges.due("reach(" + j + ")", x.reach(j), -1);
            Edges.due("reached(" + j + ", 0)", x.reached(j, 0), -1);
        }
    }

    private static void first() {
        Edges.term("THE FIRST number that needs so many joinings at least (0: 1)");
        LeavenHouse x = new LeavenHouse();
        int[] due = {1, 2, 3, 5, 7, 11, 19, 29, 47, 71};
        Edges.promise(32, "THE FIRST number. NONE for others (0 .. 9)");
        for (int j = 0; j <= 9; j++) {
            Edges.due("first(" + j + ")", x.first(j), due[j]);
        }
        Edges.due("first(-1)", x.first(-1), -1);
        Edges.due("first(10)", x.first(10), -1);
        for (int far : FAR) {
            Edges.due("first(" + far + ")", x.first(far), -1);
        }
    }

    private static LeavenHouse telling(int... numbers) {
        LeavenHouse x = new LeavenHouse();
        for (int n : numbers) {
            x.tell(n);
        }
        Edges.due("all are told", x.about(4), numbers.length + 1);
        return x;
    }

    private static void told() {
        Edges.term("A CHAIN told (12 numbers at most, 1 being the first)");
        Edges.promise(33, "A CHAIN told: how many numbers it has (n NONE: 1 alone again). -2 for others (1 .. 9999), or if there are 12");
        LeavenHouse x = new LeavenHouse();
        Edges.due("about(4)", x.about(4), 1);
        Edges.due("tell(0)", x.tell(0), -2);
        Edges.due("tell(10000)", x.tell(10000), -2);
        for (int far : FAR) {
            Edges.due("tell(" + far + ")", x.tell(far), -2);
        }
        Edges.due("about(4)", x.about(4), 1);
        Edges.due("tell(1)", x.tell(1), 2);
        Edges.due("tell(9999)", x.tell(9999), 3);
        Edges.due("tell(-1)", x.tell(-1), 1);
        Edges.due("tell(-1)", x.tell(-1), 1);
        for (int i = 2; i <= 12; i++) {
            Edges.due("tell(" + (1 << i - 1) + ")", x.tell(1 << i - 1), i);
        }
        Edges.due("tell(4096)", x.tell(4096), -2);
        Edges.due("tell(0)", x.tell(0), -2);
        Edges.due("about(4)", x.about(4), 12);
        Edges.due("wrong()", x.wrong(), -1);
        Edges.due("steps(true)", x.steps(true), 11);
        Edges.due("steps(false)", x.steps(false), 0);
        Edges.due("needless()", x.needless(), 0);
        Edges.due("star()", x.star(), true);
        Edges.due("tell(-1)", x.tell(-1), 1);
        Edges.due("tell(3)", x.tell(3), 2);
        Edges.due("wrong()", x.wrong(), 1);
    }

    private static void wrong() {
        Edges.term("WRONG: the first number (0: 1) that isn't more than the one ahead, or isn't a sum of two ahead of it");
        Edges.promise(34, "WRONG: which. NONE: none");
        Edges.due("1", telling().wrong(), -1);
        Edges.due("1 1", telling(1).wrong(), 1);
        Edges.due("1 2", telling(2).wrong(), -1);
        Edges.due("1 3", telling(3).wrong(), 1);
        Edges.due("1 2 2", telling(2, 2).wrong(), 2);
        Edges.due("1 2 1", telling(2, 1).wrong(), 2);
        Edges.due("1 2 3", telling(2, 3).wrong(), -1);
        Edges.due("1 2 4", telling(2, 4).wrong(), -1);
        Edges.due("1 2 5", telling(2, 5).wrong(), 2);
        Edges.due("1 2 4 4", telling(2, 4, 4).wrong(), 3);
        Edges.due("1 2 4 3", telling(2, 4, 3).wrong(), 3);
        Edges.due("1 2 4 7", telling(2, 4, 7).wrong(), 3);
        Edges.due("1 2 4 8", telling(2, 4, 8).wrong(), -1);
        Edges.due("1 2 4 9", telling(2, 4, 9).wrong(), 3);
        Edges.due("the first of two", telling(3, 5).wrong(), 1);
        Edges.due("the last of twelve", telling(2, 3, 4, 5, 6, 7, 8, 9, 10, 11, 23).wrong(), 11);
        Edges.due("1 alone isn't WRONG", telling().wrong(), -1);
        // 9999 is 5 4999 and 5000: sums above 9999 stay sums.
        Edges.due("1 9999", telling(9999).wrong(), 1);
    }

    private static void needless() {
        Edges.term("NEEDLESS: numbers (bits) but the first and the last without which it isn't WRONG either, each alone");
        Edges.promise(35, "NEEDLESS (bits). NONE: it is WRONG");
        Edges.due("1", telling().needless(), 0);
        Edges.due("1 2", telling(2).needless(), 0);
        Edges.due("1 2 3", telling(2, 3).needless(), 0);
        Edges.due("1 2 3 4", telling(2, 3, 4).needless(), 4);
        Edges.due("1 2 4 5", telling(2, 4, 5).needless(), 0);
        Edges.due("1 2 3 4 5", telling(2, 3, 4, 5).needless(), 4 | 8);
        Edges.due("1 2 3 4 7", telling(2, 3, 4, 7).needless(), 0);
        Edges.due("1 to 12", telling(2, 3, 4, 5, 6, 7, 8, 9, 10, 11, 12).needless(), 2044);
        Edges.due("1 3", telling(3).needless(), -1);
        Edges.due("1 2 2", telling(2, 2).needless(), -1);
        Edges.due("1 2 3 3", telling(2, 3, 3).needless(), -1);
        Edges.due("the last is WRONG", telling(2, 3, 4, 9).needless(), -1);
    }

    private static void stars() {
        Edges.term("A STAR: it isn't WRONG, and each number is the sum of the one ahead of it and one ahead");
        Edges.promise(36, "A STAR");
        Edges.due("1", telling().star(), true);
        Edges.due("1 2", telling(2).star(), true);
        Edges.due("1 2 4 8", telling(2, 4, 8).star(), true);
        Edges.due("1 2 4 5 9", telling(2, 4, 5, 9).star(), true);
        Edges.due("1 2 4 5 8", telling(2, 4, 5, 8).star(), false);
        Edges.due("1 2 3 4", telling(2, 3, 4).star(), true);
        Edges.due("1 2 4 5 6", telling(2, 4, 5, 6).star(), true);
        Edges.due("1 1", telling(1).star(), false);
        Edges.due("1 3", telling(3).star(), false);
        Edges.due("1 2 4 7", telling(2, 4, 7).star(), false);
        Edges.due("1 2 4 5 8 9", telling(2, 4, 5, 8, 9).star(), false);
    }

    private static void steps() {
        Edges.term("STEPS that are twice one ahead (twice true), others (twice false). (1 alone isn't WRONG, is A STAR, has none of them.)");
        Edges.promise(37, "STEPS: how many. NONE: it is WRONG");
        int[][] rows = {{}, {2}, {2, 3}, {2, 4}, {2, 3, 4}, {2, 3, 4, 5, 6}, {2, 4, 5, 10, 20}};
        int[] twice = {0, 1, 1, 2, 2, 3, 4};
        for (int i = 0; i < rows.length; i++) {
            LeavenHouse x = telling(rows[i]);
            Edges.due("steps(true)", x.steps(true), twice[i]);
            Edges.due("steps(false)", x.steps(false), rows[i].length - twice[i]);
        }
        for (int[] row : new int[][] {{1}, {3}, {2, 2}, {2, 4, 3}, {2, 4, 9}}) {
            LeavenHouse x = telling(row);
            Edges.due("steps(true)", x.steps(true), -1);
            Edges.due("steps(false)", x.steps(false), -1);
        }
    }

    private static void games() {
        Edges.term("A GAME to n: at first 1; by turns each adds a number that is the sum of two there (of one and itself, too), more than all there, n at most");
        LeavenHouse x = new LeavenHouse();
        // To 2: 2 wins. To 3 and 4: behind 2 the other one adds it. To 5: 2, then 3 or 4, then 5.
        int[] wins = {1, 0, 0, 1};
        for (int n = 2; n <= 5; n++) {
            Edges.due("game(" + n + ")", x.game(n), wins[n - 2]);
        }
        Edges.term("who adds n wins: whether the one who begins wins; A PLAY by which it wins: the lowest");
        for (int n = 2; n <= 12; n++) {
            int due = Brute.play(List.of(1), n);
            Edges.promise(38, "A GAME: 1 the one who begins wins, 0 the other one. NONE for others (2 .. 12)");
            Edges.due("game(" + n + ")", x.game(n), due == -1 ? 0 : 1);
            Edges.promise(39, "A PLAY: the number. NONE: none wins, and for others");
            Edges.due("play(" + n + ")", x.play(n), due);
        }
        for (int n : new int[] {1, 0, -1, 13, 14, 31, 32, Edges.MIN, Edges.MAX}) {
            Edges.due("game(" + n + ")", x.game(n), -1);
            Edges.due("play(" + n + ")", x.play(n), -1);
        }
    }
}
