import java.util.ArrayList;
import java.util.List;
import java.util.Random;

/**
 * Runs of drawn calls, each answer held against the Model's; the texts are drawn, too. No object is
 * used for more calls than the document promises something of.
 */
public final class ModelTest {
    private static final int MOST_CALLS = 512;
    /** What a look at the state takes, and what one that a text goes ahead of takes at most. */
    private static final int LOOK = 100;
    private static final int MOST_AT_ONCE = LOOK + 30;

    private final Random draws;
    private final LeavenHouse x = new LeavenHouse();
    private final Model m = new Model();
    private final List<String> said = new ArrayList<>();
    private int wrong = 0;
    private int used = 0;

    private ModelTest(long seed) {
        draws = new Random(seed);
    }

    public static void main(String[] args) {
        int runs = args.length > 0 ? Integer.parseInt(args[0]) : 6000;
        int bad = 0;
        for (int run = 0; run < runs && bad < 5; run++) {
            ModelTest test = new ModelTest(run);
            test.run(run);
            if (test.wrong > 0) {
                bad++;
                System.out.println("run " + run + ":");
                int from = Math.max(0, test.said.size() - 12);
                for (String s : test.said.subList(from, test.said.size())) {
                    System.out.println("  " + s);
                }
            }
        }
        System.out.println(bad == 0 ? "model: " + runs + " runs, all as due" : bad + " runs wrong");
        System.exit(bad == 0 ? 0 : 1);
    }

    private void due(String call, long got, long want) {
        used++;
        said.add(call + " = " + got + (got == want ? "" : ", due is " + want));
        wrong += got == want ? 0 : 1;
    }

    private void due(String call, boolean got, boolean want) {
        due(call, got ? 1 : 0, want ? 1 : 0);
    }

    private int in(int low, int high) {
        return low + draws.nextInt(high - low + 1);
    }

    private int odd(int low, int high) {
        switch (draws.nextInt(30)) {
            case 0:
                return Integer.MIN_VALUE;
            case 1:
                return Integer.MAX_VALUE;
            default:
                return in(low, high);
        }
    }

    private void run(int run) {
        if (run % 7 == 0) {
            for (int i = 0; i < 166; i++) {
                due("day(60)", x.day(60), m.day(60));
            }
        }
        for (int i = 1; used + MOST_AT_ONCE <= MOST_CALLS && wrong == 0; i++) {
            call(run);
            if (i % 40 == 0 && used + LOOK + MOST_AT_ONCE <= MOST_CALLS) {
                state();
            }
        }
        state();
        if (used > MOST_CALLS) {
            due("calls of run " + run, used, MOST_CALLS);
        }
    }

    private void call(int run) {
        int kind = draws.nextInt(100);
        if (kind < 14) {
            text(run);
        } else if (kind < 62) {
            step(run);
        } else if (kind < 84) {
            look();
        } else {
            tellings();
        }
    }

    private void step(int run) {
        int a = odd(-1, 8);
        int b = odd(-1, 8);
        switch (draws.nextInt(20)) {
            case 0: case 1: case 2: case 3:
                due("join(" + a + ", " + b + ")", x.join(a, b), m.join(a, b));
                break;
            case 4: {
                int top = m.fullest();
                due("join(" + top + ", " + top + ")", x.join(top, top), m.join(top, top));
                break;
            }
            case 5:
                due("pour(" + a + ")", x.pour(a), m.pour(a));
                break;
            case 6: case 7:
                due("bake(" + a + ")", x.bake(a), m.bake(a));
                break;
            case 8: case 9: case 10: {
                int n = run % 3 == 0 ? in(1, 4) : odd(-1, 62);
                due("day(" + n + ")", x.day(n), m.day(n));
                break;
            }
            case 11: case 12: case 13: {
                int t = odd(-2, 4);
                due("played(" + t + ")", x.played(t), m.played(t));
                break;
            }
            case 14: {
                int seed = odd(-1, 10000);
                int n = odd(-1, 42);
                due("years(" + seed + ", " + n + ")", x.years(seed, n), m.years(seed, n));
                break;
            }
            case 15: case 16:
                due("undo()", x.undo(), m.undo());
                break;
            case 17:
                due("image()", x.image(), m.image());
                break;
            case 18:
                if (draws.nextInt(3) == 0) {
                    due("back()", x.back(), m.back());
                }
                break;
            default:
                due("by(" + (a - 1) + ")", x.by(a - 1), m.by(a - 1));
                break;
        }
    }

    private void look() {
        int a = odd(-1, 8);
        int b = odd(-1, 5);
        int n = odd(-1, 62);
        switch (draws.nextInt(8)) {
            case 0:
                due("of(" + a + ", " + b + ")", x.of(a, b), m.of(a, b));
                break;
            case 1:
                due("is(" + b + ")", x.is(b), m.is(b));
                break;
            case 2:
                due("book(" + n + ", " + b + ")", x.book(n, b), m.book(n, b));
                break;
            case 3:
                due("foretold(" + n + ", " + a + ")", x.foretold(n, a), m.foretold(n, a));
                break;
            case 4:
                due("can(" + n + ")", x.can(n), m.can(n));
                break;
            case 5:
                due("ledger(" + b + ")", x.ledger(b), m.ledger(b));
                break;
            case 6:
                due("about(" + a + ")", x.about(a), m.about(a));
                break;
            default:
                due("whose()", x.whose(), m.whose());
                break;
        }
    }

    private void tellings() {
        switch (draws.nextInt(8)) {
            case 0: {
                int n = draws.nextInt(4) == 0 ? odd(-2, 42) : in(1, 40);
                due("order(" + n + ")", x.order(n), m.order(n));
                break;
            }
            case 1: {
                int i = odd(-2, 10);
                if (m.s.orders.size() < 3 || draws.nextInt(6) == 0) {
                    due("made(" + i + ")", x.made(i), m.made(i));
                }
                break;
            }
            case 2: case 3: case 4: {
                int last = m.s.told.get(m.s.told.size() - 1);
                int some = m.s.told.get(draws.nextInt(m.s.told.size()));
                int n = draws.nextInt(8) == 0 ? odd(-2, 10001) : last + some;
                due("tell(" + n + ")", x.tell(n), m.tell(n));
                due("wrong()", x.wrong(), m.wrong());
                due("needless()", x.needless(), m.needless());
                due("star()", x.star(), m.star());
                due("steps(true)", x.steps(true), m.steps(true));
                due("steps(false)", x.steps(false), m.steps(false));
                break;
            }
            case 5:
                due("tell(-1)", x.tell(-1), m.tell(-1));
                break;
            default: {
                int crock = draws.nextInt(9) == 0 ? -1 : odd(-2, 8);
                int tires = odd(-1, 11);
                if (draws.nextInt(2) == 0 && crock >= 0 && crock < 8) {
                    tires = m.of(crock, 2);
                }
                due("said(" + crock + ", " + tires + ")", x.said(crock, tires),
                        m.said(crock, tires));
                break;
            }
        }
    }

    private void state() {
        for (int i = 0; i < 8; i++) {
            for (int what = 0; what < 4; what++) {
                due("of(" + i + ", " + what + ")", x.of(i, what), m.of(i, what));
            }
        }
        for (int what = -1; what < 8; what++) {
            due("is(" + what + ")", x.is(what), m.is(what));
            due("about(" + what + ")", x.about(what), m.about(what));
            due("ledger(" + what + ")", x.ledger(what), m.ledger(what));
            due("fault(" + what + ")", x.fault(what), m.fault(what));
        }
        int salt = draws.nextInt(4);
        for (int i = -2; i < 27; i++) {
            int what = i + salt & 3;
            due("book(" + i + ", " + what + ")", x.book(i, what), m.book(i, what));
        }
        due("oldest()", x.oldest(), m.oldest());
        due("fullest()", x.fullest(), m.fullest());
        due("whose()", x.whose(), m.whose());
    }

    // ---- texts

    private void text(int run) {
        if (draws.nextInt(12) == 0) {
            int n = odd(-1, 301);
            due("end(" + n + ")", x.end(n), m.end(n));
        } else {
            due("end(0)", x.end(0), m.end(0));
        }
        if (draws.nextInt(3) == 0) {
            due("back()", x.back(), m.back());
        }
        String t = new Texts(draws).draw();
        int before = m.tape.size();
        if (before + t.length() > 300) {
            t = t.substring(0, 300 - before);
        }
        said.add("TEXT " + t.replace('\n', '|'));
        for (int at = 0; at < t.length(); at += 20) {
            int[] w = new int[5];
            for (int i = 0; i < 20; i++) {
                int c = at + i < t.length() ? t.charAt(at + i) : 0;
                w[i / 4] = w[i / 4] << 8 | c;
            }
            due("feed", x.feed(w[0], w[1], w[2], w[3], w[4]), m.feed(w[0], w[1], w[2], w[3], w[4]));
        }
        if (draws.nextInt(20) > 0) {
            due("end", x.end(before + t.length()), m.end(before + t.length()));
        }
        due("about(6)", x.about(6), m.about(6));
        due("text()", x.text(), m.text());
        due("about(6)", x.about(6), m.about(6));
        due("fault(0)", x.fault(0), m.fault(0));
        due("fault(1)", x.fault(1), m.fault(1));
        if (run % 2 == 0) {
            int last = m.s.texts.size() - 1;
            due("by", x.by(last), m.by(last));
        }
    }

    /** Texts by the grammar, most of them spoilt a little. */
    private static final class Texts {
        private final Random draws;
        private final StringBuilder out = new StringBuilder();
        private String law;

        Texts(Random draws) {
            this.draws = draws;
        }

        String draw() {
            int clauses = draws.nextInt(4) == 0 ? draws.nextInt(30) : draws.nextInt(7);
            boolean small = clauses > 8;
            int lawAt = draws.nextInt(3);
            for (int i = 0; i < clauses; i++) {
                if (!small && i == lawAt || draws.nextInt(12) == 0) {
                    law("tires");
                } else if (!small && draws.nextInt(5) == 0) {
                    law("price");
                } else {
                    order();
                }
            }
            String t = out.toString();
            return draws.nextInt(3) == 0 ? spoil(t) : t;
        }

        private void law(String which) {
            law = which;
            word(which);
            sum(draws.nextInt(draws.nextInt(3) == 0 ? 10 : 4));
            sign(";");
        }

        private void order() {
            int far = draws.nextInt(40) == 0 ? 3 : 0;
            switch (draws.nextInt(6)) {
                case 0: case 1:
                    word("join");
                    word("" + draws.nextInt(3 + far * 2));
                    word("and");
                    word("" + draws.nextInt(3 + far * 2));
                    break;
                case 2:
                    word(draws.nextBoolean() ? "pour" : "bake");
                    word("" + draws.nextInt(6 + far));
                    break;
                case 3:
                    word("day");
                    word("" + (1 + draws.nextInt(far > 0 ? 70 : 5)));
                    break;
                default:
                    word("make");
                    word("" + (1 + draws.nextInt(far > 0 ? 130 : draws.nextBoolean() ? 12 : 80)));
                    break;
            }
            sign(";");
        }

        private void sum(int depth) {
            product(depth);
            while (draws.nextInt(3) == 0) {
                sign(draws.nextBoolean() ? "+" : "-");
                product(depth);
            }
        }

        private void product(int depth) {
            one(depth);
            while (draws.nextInt(4) == 0) {
                sign(draws.nextBoolean() ? "*" : "/");
                one(depth);
            }
        }

        private void one(int depth) {
            if (depth <= 0 || draws.nextInt(4) == 0 || out.length() > 250) {
                leaf();
                return;
            }
            switch (draws.nextInt(5)) {
                case 0:
                    sign("(");
                    sum(depth - 1);
                    sign(")");
                    break;
                case 1:
                    sign("-");
                    one(depth - 1);
                    break;
                case 2:
                    word("double");
                    one(depth - 1);
                    break;
                case 3:
                    word("crock");
                    one(depth - 1);
                    break;
                default:
                    word("if");
                    either(depth - 1);
                    word("then");
                    sum(depth - 1);
                    word("else");
                    sum(depth - 1);
                    word("end");
                    break;
            }
        }

        private void leaf() {
            String[] names = {"day", "number", "pounds", "age", "full", "odd", "fund"};
            if (draws.nextInt(3) == 0) {
                int top = draws.nextInt(8) == 0 ? 10001 : draws.nextInt(6) == 0 ? 9999 : 9;
                word("" + draws.nextInt(top));
                return;
            }
            String name = names[draws.nextInt(7)];
            if (draws.nextInt(12) > 0 && name.equals(law.equals("tires") ? "fund" : "odd")) {
                name = law.equals("tires") ? "odd" : "fund";
            }
            word(name);
        }

        private void either(int depth) {
            both(depth);
            while (draws.nextInt(3) == 0) {
                word("or");
                both(depth);
            }
        }

        private void both(int depth) {
            ask(depth);
            while (draws.nextInt(3) == 0) {
                word("and");
                ask(depth);
            }
        }

        private void ask(int depth) {
            if (depth > 0 && draws.nextInt(3) == 0) {
                word("not");
                ask(depth - 1);
                return;
            }
            String[] signs = {"<", "<=", ">", ">=", "=", "#"};
            sum(depth - 1);
            sign(signs[draws.nextInt(6)]);
            sum(depth - 1);
        }

        private void word(String w) {
            int n = out.length();
            if (n > 0 && Character.isLetterOrDigit(out.charAt(n - 1))) {
                out.append(draws.nextInt(20) == 0 ? '\n' : ' ');
            }
            out.append(w);
        }

        private void sign(String s) {
            if (draws.nextInt(6) == 0) {
                out.append(draws.nextInt(9) == 0 ? '\n' : ' ');
            }
            out.append(s);
        }

        private String spoil(String t) {
            String[] bits = {"(", ")", "-", "not ", "if ", "then ", "else ", "end ", "double ",
                "crock ", "9", "0", "99999", "odd ", "fund ", ";", "<", "=", ">", "#", "and ", "or ",
                "tires ", "price ", "x", "Day ", "\t", "!", "\u00e9", "\u00ff", "\u0000", " ", "\n",
                "+", "*", "/", "make ", "day ", "join ", "pour ", "bake ", "number ", "_"};
            StringBuilder s = new StringBuilder(t);
            for (int i = draws.nextInt(3); i >= 0; i--) {
                int at = draws.nextInt(s.length() + 1);
                switch (draws.nextInt(3)) {
                    case 0:
                        s.insert(at, bits[draws.nextInt(bits.length)]);
                        break;
                    case 1:
                        s.delete(at, Math.min(s.length(), at + 1 + draws.nextInt(3)));
                        break;
                    default:
                        s.setLength(draws.nextInt(3) == 0 ? at : s.length());
                        break;
                }
            }
            return s.toString();
        }
    }
}
