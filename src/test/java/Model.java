import java.util.ArrayDeque;
import java.util.ArrayList;
import java.util.Arrays;
import java.util.Deque;
import java.util.List;
import java.util.Map;
import java.util.TreeMap;

/**
 * The document's state once more, written apart from the class and as plainly as the Java library
 * lets it: a tree of closures for laws, whole copies for steps and the image, Brute for numbers.
 */
final class Model {
    static final int NONE = -1;

    static final class Line {
        final int day, what, crock, pounds;

        Line(int day, int what, int crock, int pounds) {
            this.day = day;
            this.what = what;
            this.crock = crock;
            this.pounds = pounds;
        }
    }

    /** What a step can change. */
    static final class Room {
        int[] pounds = {1, 0, 0, 0, 0, 0, 0, 0};
        int[] age = new int[8];
        int fund, day, x = 433;
        List<Line> book = new ArrayList<>();

        Room copy() {
            Room r = new Room();
            r.pounds = pounds.clone();
            r.age = age.clone();
            r.fund = fund;
            r.day = day;
            r.x = x;
            r.book = new ArrayList<>(book);
            return r;
        }

        void write(int what, int crock, int amount) {
            book.add(new Line(day, what, crock, amount));
            while (book.size() > 25) {
                book.remove(0);
            }
        }

        int draw() {
            int old = x;
            x = (int) ((x * 683L + 563L) % 30997L);
            return old;
        }

        int full() {
            return (int) Arrays.stream(pounds).filter(p -> p > 0).count();
        }
    }

    interface Expr {
        long at(Room room, int crock);
    }

    interface Cond {
        boolean at(Room room, int crock);
    }

    static final class Clause {
        final String kind;
        final int a, b;

        Clause(String kind, int a, int b) {
            this.kind = kind;
            this.a = a;
            this.b = b;
        }
    }

    static final class Script {
        Expr tires, price;
        final List<Clause> clauses = new ArrayList<>();
    }

    static final class Fault extends RuntimeException {
        final int kind, place;

        Fault(int kind, int place) {
            super(null, null, false, false);
            this.kind = kind;
            this.place = place;
        }
    }

    static final class Tok {
        final String text;
        final int place;

        Tok(String text, int place) {
            this.text = text;
            this.place = place;
        }
    }

    private static long clip(long v) {
        return v > 1000000 ? 1000000 : v < -1000000 ? -1000000 : v;
    }

    /** Tokens first, then one pass over them; the first fault is thrown. */
    static final class Parser {
        final List<Tok> toks = new ArrayList<>();
        int at = 0;
        String law;
        final Script script = new Script();

        Parser(List<Integer> tape) {
            StringBuilder all = new StringBuilder();
            for (int b : tape) {
                all.append((char) b);
            }
            String t = all.toString();
            int i = 0;
            while (i < t.length()) {
                char c = t.charAt(i);
                int j = i + 1;
                if (c == 32 || c == 10) {
                    i++;
                    continue;
                }
                if (letter(c)) {
                    while (j < t.length() && letter(t.charAt(j))) {
                        j++;
                    }
                } else if (digit(c)) {
                    while (j < t.length() && digit(t.charAt(j))) {
                        j++;
                    }
                } else if ((c == '<' || c == '>') && j < t.length() && t.charAt(j) == '=') {
                    j++;
                }
                toks.add(new Tok(t.substring(i, j), i));
                i = j;
            }
            toks.add(new Tok("", t.length()));
        }

        static boolean letter(char c) {
            return c >= 'a' && c <= 'z' || c >= 'A' && c <= 'Z';
        }

        static boolean digit(char c) {
            return c >= '0' && c <= '9';
        }

        String peek() {
            return toks.get(at).text;
        }

        Fault fault(int kind) {
            return new Fault(kind, toks.get(at).place);
        }

        boolean number() {
            return !peek().isEmpty() && digit(peek().charAt(0));
        }

        void expect(String s) {
            if (!peek().equals(s)) {
                throw fault(1);
            }
            at++;
        }

        int num(int low, int high) {
            if (!number()) {
                throw fault(1);
            }
            java.math.BigInteger v = new java.math.BigInteger(peek());
            if (v.compareTo(java.math.BigInteger.valueOf(low)) < 0
                    || v.compareTo(java.math.BigInteger.valueOf(high)) > 0) {
                throw fault(2);
            }
            at++;
            return v.intValue();
        }

        Script all() {
            while (!peek().isEmpty()) {
                clause();
            }
            return script;
        }

        void clause() {
            String w = peek();
            List<String> known = List.of("tires", "price", "join", "pour", "bake", "day", "make");
            if (!known.contains(w)) {
                throw fault(1);
            }
            if (w.equals("tires") && script.tires != null
                    || w.equals("price") && script.price != null) {
                throw fault(4);
            }
            if (script.clauses.size() == 24) {
                throw fault(6);
            }
            at++;
            int a = 0;
            int b = 0;
            if (w.equals("tires") || w.equals("price")) {
                law = w;
                Expr e = sum(0);
                if (w.equals("tires")) {
                    script.tires = e;
                } else {
                    script.price = e;
                }
            } else if (w.equals("join")) {
                a = num(0, 7);
                expect("and");
                b = num(0, 7);
            } else if (w.equals("day")) {
                a = num(1, 60);
            } else if (w.equals("make")) {
                a = num(1, 120);
            } else {
                a = num(0, 7);
            }
            expect(";");
            script.clauses.add(new Clause(w, a, b));
        }

        Expr sum(int depth) {
            Expr left = product(depth);
            while (peek().equals("+") || peek().equals("-")) {
                boolean plus = peek().equals("+");
                at++;
                Expr l = left;
                Expr r = product(depth);
                left = (room, c) -> clip(plus ? l.at(room, c) + r.at(room, c)
                        : l.at(room, c) - r.at(room, c));
            }
            return left;
        }

        Expr product(int depth) {
            Expr left = one(depth);
            while (peek().equals("*") || peek().equals("/")) {
                boolean times = peek().equals("*");
                at++;
                Expr l = left;
                Expr r = one(depth);
                left = (room, c) -> {
                    long x = l.at(room, c);
                    long y = r.at(room, c);
                    return clip(times ? x * y : y == 0 ? 0 : x / y);
                };
            }
            return left;
        }

        void open(int depth) {
            if (depth == 8) {
                throw fault(3);
            }
            at++;
        }

        Expr one(int depth) {
            String w = peek();
            if (number()) {
                int v = num(0, 9999);
                return (room, c) -> v;
            }
            switch (w) {
                case "day":
                    at++;
                    return (room, c) -> room.day;
                case "number":
                    at++;
                    return (room, c) -> c;
                case "pounds":
                    at++;
                    return (room, c) -> room.pounds[c];
                case "age":
                    at++;
                    return (room, c) -> room.age[c];
                case "full":
                    at++;
                    return (room, c) -> room.full();
                case "odd":
                    if (!law.equals("tires")) {
                        throw fault(5);
                    }
                    at++;
                    return (room, c) -> room.pounds[c] & 1;
                case "fund":
                    if (!law.equals("price")) {
                        throw fault(5);
                    }
                    at++;
                    return (room, c) -> room.fund;
                case "(": {
                    open(depth);
                    Expr e = sum(depth + 1);
                    expect(")");
                    return e;
                }
                case "-": {
                    open(depth);
                    Expr e = one(depth + 1);
                    return (room, c) -> -e.at(room, c);
                }
                case "double": {
                    open(depth);
                    Expr e = one(depth + 1);
                    return (room, c) -> clip(2 * e.at(room, c));
                }
                case "crock": {
                    open(depth);
                    Expr e = one(depth + 1);
                    return (room, c) -> {
                        long v = e.at(room, c);
                        return v < 0 || v > 7 ? 0 : room.pounds[(int) v];
                    };
                }
                case "if": {
                    open(depth);
                    Cond q = either(depth + 1);
                    expect("then");
                    Expr yes = sum(depth + 1);
                    expect("else");
                    Expr no = sum(depth + 1);
                    expect("end");
                    return (room, c) -> q.at(room, c) ? yes.at(room, c) : no.at(room, c);
                }
                default:
                    throw fault(1);
            }
        }

        Cond either(int depth) {
            Cond left = bothOf(depth);
            while (peek().equals("or")) {
                at++;
                Cond l = left;
                Cond r = bothOf(depth);
                left = (room, c) -> l.at(room, c) | r.at(room, c);
            }
            return left;
        }

        Cond bothOf(int depth) {
            Cond left = ask(depth);
            while (peek().equals("and")) {
                at++;
                Cond l = left;
                Cond r = ask(depth);
                left = (room, c) -> l.at(room, c) & r.at(room, c);
            }
            return left;
        }

        Cond ask(int depth) {
            if (peek().equals("not")) {
                open(depth);
                Cond q = ask(depth + 1);
                return (room, c) -> !q.at(room, c);
            }
            Expr l = sum(depth);
            String op = peek();
            if (!List.of("<", "<=", ">", ">=", "=", "#").contains(op)) {
                throw fault(1);
            }
            at++;
            Expr r = sum(depth);
            return (room, c) -> {
                int s = Long.compare(l.at(room, c), r.at(room, c));
                switch (op) {
                    case "<":
                        return s < 0;
                    case "<=":
                        return s <= 0;
                    case ">":
                        return s > 0;
                    case ">=":
                        return s >= 0;
                    case "=":
                        return s == 0;
                    default:
                        return s != 0;
                }
            };
        }
    }

    /** All that the image keeps. */
    static final class State {
        Room room = new Room();
        Deque<Room> steps = new ArrayDeque<>();
        List<Script> texts = new ArrayList<>();
        int ruling = NONE;
        List<Integer> orders = new ArrayList<>();
        List<Integer> told = new ArrayList<>(List.of(1));
        List<int[]> said = new ArrayList<>();

        State copy() {
            State s = new State();
            s.room = room.copy();
            for (Room r : steps) {
                s.steps.addLast(r.copy());
            }
            s.texts = new ArrayList<>(texts);
            s.ruling = ruling;
            s.orders = new ArrayList<>(orders);
            s.told = new ArrayList<>(told);
            s.said = new ArrayList<>(said);
            return s;
        }
    }

    State s = new State();
    State image = s.copy();
    List<Integer> tape = new ArrayList<>();
    int[] latest = {NONE, NONE};
    private static final Map<Integer, List<Integer>> LOWEST = new TreeMap<>();

    int feed(int a, int b, int c, int d, int e) {
        if (tape.size() > 280) {
            return NONE;
        }
        for (int v : new int[] {a, b, c, d, e}) {
            tape.add(v >>> 24);
            tape.add(v >>> 16 & 0xff);
            tape.add(v >>> 8 & 0xff);
            tape.add(v & 0xff);
        }
        return tape.size();
    }

    int end(int n) {
        if (n < 0 || tape.size() < n) {
            return NONE;
        }
        tape = new ArrayList<>(tape.subList(0, n));
        return n;
    }

    int text() {
        if (s.texts.size() == 4) {
            return NONE;
        }
        List<Integer> read = tape;
        tape = new ArrayList<>();
        try {
            s.texts.add(new Parser(read).all());
            latest = new int[] {0, NONE};
            return s.texts.size() - 1;
        } catch (Fault f) {
            latest = new int[] {f.kind, f.place};
            return NONE;
        }
    }

    int fault(int what) {
        return what == 0 || what == 1 ? latest[what] : NONE;
    }

    boolean by(int text) {
        if (text < NONE || text >= s.texts.size()) {
            return false;
        }
        s.ruling = text;
        return true;
    }

    private Script rule() {
        return s.ruling == NONE ? null : s.texts.get(s.ruling);
    }

    private static int tires(Script law, Room r, int crock) {
        return law == null || law.tires == null ? 2
                : (int) Math.max(0, Math.min(10, law.tires.at(r, crock)));
    }

    private static int price(Script law, Room r, int crock) {
        return law == null || law.price == null ? r.pounds[crock]
                : (int) Math.max(0, Math.min(9999, law.price.at(r, crock)));
    }

    private void push() {
        s.steps.addLast(s.room.copy());
        if (s.steps.size() > 30) {
            s.steps.removeFirst();
        }
    }

    private static boolean any(Room r, int crock) {
        return crock >= 0 && crock < 8 && r.pounds[crock] > 0;
    }

    private static int empty(Room r) {
        for (int i = 0; i < 8; i++) {
            if (r.pounds[i] == 0) {
                return i;
            }
        }
        return NONE;
    }

    private static int doJoin(Room r, int a, int b) {
        int e = empty(r);
        if (!any(r, a) || !any(r, b) || e == NONE || r.pounds[a] + r.pounds[b] > 9999) {
            return NONE;
        }
        r.pounds[e] = r.pounds[a] + r.pounds[b];
        r.age[e] = 0;
        r.write(0, e, r.pounds[e]);
        return e;
    }

    private static boolean doPour(Room r, int crock) {
        if (!any(r, crock)) {
            return false;
        }
        r.write(1, crock, r.pounds[crock]);
        r.pounds[crock] = 0;
        r.age[crock] = 0;
        return true;
    }

    private int doBake(Room r, int crock) {
        if (!any(r, crock)) {
            return NONE;
        }
        int p = price(rule(), r, crock);
        r.fund = Math.min(999999, r.fund + p);
        r.write(2, crock, r.pounds[crock]);
        r.pounds[crock] = 0;
        r.age[crock] = 0;
        return p;
    }

    private int doDay(Room r) {
        int tired = 0;
        for (int i = 0; i < 8; i++) {
            if (r.pounds[i] > 0) {
                r.age[i] = Math.min(99, r.age[i] + 1);
                int d = r.draw() % 10;
                if (d < tires(rule(), r, i)) {
                    tired++;
                    r.pounds[i] = r.pounds[i] / 2;
                    if (r.pounds[i] == 0) {
                        r.age[i] = 0;
                    }
                    r.write(3, i, r.pounds[i]);
                }
            }
        }
        r.day++;
        return tired;
    }

    int join(int a, int b) {
        Room next = s.room.copy();
        int e = doJoin(next, a, b);
        if (e != NONE) {
            push();
            s.room = next;
        }
        return e;
    }

    boolean pour(int crock) {
        Room next = s.room.copy();
        boolean ok = doPour(next, crock);
        if (ok) {
            push();
            s.room = next;
        }
        return ok;
    }

    int bake(int crock) {
        Room next = s.room.copy();
        int p = doBake(next, crock);
        if (p != NONE) {
            push();
            s.room = next;
        }
        return p;
    }

    int day(int n) {
        if (n < 1 || n > 60 || s.room.day + n > 9999) {
            return NONE;
        }
        int tired = 0;
        for (int i = 0; i < n; i++) {
            push();
            tired += doDay(s.room);
        }
        return tired;
    }

    static List<Integer> lowest(int n) {
        return LOWEST.computeIfAbsent(n, k -> Brute.shortest(List.of(k)).get(0));
    }

    int played(int text) {
        if (text < 0 || text >= s.texts.size()) {
            return -2;
        }
        List<Clause> clauses = s.texts.get(text).clauses;
        for (int i = 0; i < clauses.size(); i++) {
            Clause c = clauses.get(i);
            boolean ok = true;
            switch (c.kind) {
                case "join":
                    ok = join(c.a, c.b) != NONE;
                    break;
                case "pour":
                    ok = pour(c.a);
                    break;
                case "bake":
                    ok = bake(c.a) != NONE;
                    break;
                case "day":
                    for (int d = 0; d < c.a; d++) {
                        ok &= day(1) != NONE;
                    }
                    break;
                case "make":
                    ok = make(c.a);
                    break;
                default:
            }
            if (!ok) {
                return i;
            }
        }
        return NONE;
    }

    private boolean make(int n) {
        for (int v : lowest(n)) {
            if (v == 1) {
                continue;
            }
            boolean there = false;
            for (int p : s.room.pounds) {
                there |= p == v;
            }
            if (there) {
                continue;
            }
            int[] ab = pair(v);
            if (ab == null || join(ab[0], ab[1]) == NONE) {
                return false;
            }
        }
        return true;
    }

    private int[] pair(int v) {
        for (int a = 0; a < 8; a++) {
            for (int b = 0; b < 8; b++) {
                if (any(s.room, a) && any(s.room, b) && s.room.pounds[a] + s.room.pounds[b] == v) {
                    return new int[] {a, b};
                }
            }
        }
        return null;
    }

    int years(int seed, int n) {
        if (seed < 0 || seed > 9999 || n < 1 || n > 40) {
            return NONE;
        }
        push();
        Room r = s.room;
        r.x = seed * 2 + 433;
        for (int i = 0; i < n; i++) {
            int x = r.draw();
            int k = x % 6;
            int crock = x / 6 % 8;
            if (k <= 1) {
                doJoin(r, crock, x % 8);
            } else if (k == 2 && x % 4 == 0) {
                doPour(r, crock);
            } else if (k == 3 && x % 4 == 1) {
                doBake(r, crock);
            } else if (k >= 4 && r.day < 9999) {
                doDay(r);
            }
        }
        return r.day;
    }

    int undo() {
        if (s.steps.isEmpty()) {
            return NONE;
        }
        s.room = s.steps.removeLast();
        return s.steps.size();
    }

    int of(int crock, int what) {
        if (crock < 0 || crock > 7) {
            return NONE;
        }
        switch (what) {
            case 0:
                return s.room.pounds[crock];
            case 1:
                return s.room.age[crock];
            case 2:
                return tires(rule(), s.room, crock);
            case 3:
                return price(rule(), s.room, crock);
            default:
                return NONE;
        }
    }

    int is(int what) {
        int bits = 0;
        int all = 0;
        for (int i = 0; i < 8; i++) {
            bits |= s.room.pounds[i] > 0 ? 1 << i : 0;
            all += s.room.pounds[i];
        }
        int[] row = {s.room.day, s.room.x, s.room.fund, bits, all};
        return what < 0 || what > 4 ? -2 : row[what];
    }

    int book(int i, int what) {
        if (i == NONE) {
            return s.room.book.size();
        }
        if (i < 0 || i >= s.room.book.size() || what < 0 || what > 3) {
            return -2;
        }
        Line l = s.room.book.get(i);
        return new int[] {l.day, l.what, l.crock, l.pounds}[what];
    }

    int foretold(int n, int crock) {
        if (n < 1 || n > 60 || crock < 0 || crock > 7) {
            return NONE;
        }
        Room r = s.room.copy();
        for (int i = 0; i < n; i++) {
            if (r.day < 9999) {
                doDay(r);
            }
        }
        return r.pounds[crock];
    }

    int order(int n) {
        if (n == NONE) {
            s.orders.clear();
            return 0;
        }
        if (n < 1 || n > 40 || s.orders.size() == 4) {
            return -2;
        }
        s.orders.add(n);
        return s.orders.size();
    }

    int made(int i) {
        List<Integer> all = s.orders.isEmpty() ? List.of(1) : Brute.lowestWith(s.orders);
        if (i == NONE) {
            return all.size() - 1;
        }
        return i < 0 || i >= all.size() ? -2 : all.get(i);
    }

    int tell(int n) {
        if (n == NONE) {
            s.told = new ArrayList<>(List.of(1));
            return 1;
        }
        if (n < 1 || n > 9999 || s.told.size() == 12) {
            return -2;
        }
        s.told.add(n);
        return s.told.size();
    }

    private static int wrongIn(List<Integer> c) {
        for (int i = 1; i < c.size(); i++) {
            boolean sum = false;
            for (int a = 0; a < i; a++) {
                for (int b = 0; b < i; b++) {
                    sum |= c.get(a) + c.get(b) == c.get(i);
                }
            }
            if (!sum || c.get(i) <= c.get(i - 1)) {
                return i;
            }
        }
        return NONE;
    }

    int wrong() {
        return wrongIn(s.told);
    }

    int needless() {
        if (wrong() != NONE) {
            return NONE;
        }
        int bits = 0;
        for (int i = 1; i + 1 < s.told.size(); i++) {
            List<Integer> less = new ArrayList<>(s.told);
            less.remove(i);
            bits |= wrongIn(less) == NONE ? 1 << i : 0;
        }
        return bits;
    }

    boolean star() {
        if (wrong() != NONE) {
            return false;
        }
        for (int i = 1; i < s.told.size(); i++) {
            if (!s.told.subList(0, i).contains(s.told.get(i) - s.told.get(i - 1))) {
                return false;
            }
        }
        return true;
    }

    int steps(boolean twice) {
        if (wrong() != NONE) {
            return NONE;
        }
        int count = 0;
        for (int i = 1; i < s.told.size(); i++) {
            boolean dbl = false;
            for (int a = 0; a < i; a++) {
                dbl |= s.told.get(a) * 2 == s.told.get(i);
            }
            count += dbl == twice ? 1 : 0;
        }
        return count;
    }

    int said(int crock, int tires) {
        if (crock == NONE) {
            s.said.clear();
            return 0;
        }
        if (crock < 0 || crock > 7 || tires < 0 || tires > 10 || s.said.size() == 8) {
            return -2;
        }
        s.said.add(new int[] {crock, tires});
        return s.said.size();
    }

    int whose() {
        int bits = 0;
        for (int t = 0; t < s.texts.size(); t++) {
            boolean all = true;
            for (int[] said : s.said) {
                all &= tires(s.texts.get(t), s.room, said[0]) == said[1];
            }
            bits |= all ? 1 << t : 0;
        }
        return bits;
    }

    int oldest() {
        return most(s.room.age);
    }

    int fullest() {
        return most(s.room.pounds);
    }

    private int most(int[] row) {
        int best = NONE;
        for (int i = 7; i >= 0; i--) {
            if (any(s.room, i) && (best == NONE || row[i] >= row[best])) {
                best = i;
            }
        }
        return best;
    }

    int can(int n) {
        int[] ab = n < 1 || n > 19998 ? null : pair(n);
        return ab == null ? NONE : 1 << ab[0] | 1 << ab[1];
    }

    int ledger(int what) {
        if (what < 0 || what > 3) {
            return -2;
        }
        return (int) s.room.book.stream().filter(l -> l.what == what).count();
    }

    int image() {
        image = s.copy();
        return s.room.day;
    }

    int back() {
        s = image.copy();
        return s.room.day;
    }

    int about(int what) {
        int[] row = {s.texts.size(), s.ruling, s.steps.size(), s.orders.size(), s.told.size(),
            s.said.size(), tape.size()};
        return what < 0 || what > 6 ? -2 : row[what];
    }
}
