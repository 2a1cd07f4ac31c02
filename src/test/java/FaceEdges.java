import java.util.ArrayList;
import java.util.List;

/** The edges of the promises themselves, as far as they aren't of numbers alone. */
final class FaceEdges {
    private static final int[] FAR = {Edges.MIN, Edges.MIN + 1, -1000000, -2, Edges.MAX - 1, Edges.MAX};

    private FaceEdges() {
    }

    static void run() {
        newObject();
        feed();
        end();
        text();
        textWithFour();
        fault();
        by();
        join();
        pourAndBake();
        day();
        played();
        years();
        undo();
        of();
        is();
        book();
        said();
        whose();
        oldestAndFullest();
        can();
        ledger();
        imageAndBack();
        about();
        nothingElseChanges();
    }

    private static void newObject() {
        Edges.term("`NONE = -1`: None");
        Edges.due("NONE", LeavenHouse.NONE, -1);
        Edges.promise(1, "One pound in the first crock; THE IMAGE is this");
        LeavenHouse x = new LeavenHouse();
        List<Long> first = Edges.all(x);
        Edges.due("is(3)", x.is(3), 1);
        Edges.due("is(4)", x.is(4), 1);
        Edges.due("back()", x.back(), 0);
        Edges.like("THE IMAGE", Edges.all(x), first);
        x.join(0, 0);
        x.day(9);
        Edges.due("back()", x.back(), 0);
        Edges.like("THE IMAGE", Edges.all(x), first);
    }

    private static void feed() {
        Edges.promise(2, "Twenty bytes come behind the tape, the highest of a first: how many it has");
        LeavenHouse x = new LeavenHouse();
        // "day 7;" over the ends of four bytes, and a last byte of 255.
        Edges.due("feed", x.feed(0x20202064, 0x61792037, 0x3b202020, 0x20202020, 0x200a0a20), 20);
        Edges.due("text()", x.text(), 0);
        x.played(0);
        Edges.due("is(0)", x.is(0), 7);
        Edges.due("feed", x.feed(0x20202020, 0x20202020, 0x20202020, 0x20202020, 0x202020ff), 20);
        Edges.due("text()", x.text(), -1);
        Edges.due("the lowest of e is the last", x.fault(1), 19);
        Edges.due("feed", x.feed(0xff202020, 0x20202020, 0x20202020, 0x20202020, 0x20202020), 20);
        Edges.due("text()", x.text(), -1);
        Edges.due("the highest of a is the first", x.fault(1), 0);
        Edges.promise(2, "NONE, and none come, if there would be more than 300");
        for (int left : new int[] {279, 280, 281, 299, 300}) {
            LeavenHouse y = new LeavenHouse();
            Edges.tape(y, " ".repeat(left));
            boolean fits = left <= 280;
            Edges.due("feed behind " + left, y.feed(0, 0, 0, 0, 0), fits ? left + 20 : -1);
            Edges.due("about(6)", y.about(6), fits ? left + 20 : left);
            Edges.due("text()", y.text(), fits ? -1 : 0);
            Edges.due("fault(1)", y.fault(1), fits ? left : -1);
        }
    }

    private static void end() {
        Edges.promise(3, "The tape has its first n bytes alone: n. NONE, and nothing is done, if it has not so many, or n is below 0");
        LeavenHouse x = new LeavenHouse();
        Edges.due("end(0)", x.end(0), 0);
        Edges.due("end(1)", x.end(1), -1);
        Edges.due("end(-1)", x.end(-1), -1);
        Edges.tape(x, "day 1;day 2;pour 9;");
        Edges.due("end(20)", x.end(20), -1);
        Edges.due("about(6)", x.about(6), 19);
        Edges.due("end(-1)", x.end(-1), -1);
        for (int far : FAR) {
            Edges.due("end(" + far + ")", x.end(far), -1);
        }
        Edges.due("about(6)", x.about(6), 19);
        Edges.due("end(19)", x.end(19), 19);
        Edges.due("end(12)", x.end(12), 12);
        Edges.due("end(13)", x.end(13), -1);
        Edges.due("text()", x.text(), 0);
        x.played(0);
        Edges.due("its first bytes", x.is(0), 3);
        Edges.tape(x, " ".repeat(300));
        Edges.due("end(301)", x.end(301), -1);
        Edges.due("end(300)", x.end(300), 300);
        // What was cut doesn't come again with what is fed behind.
        LeavenHouse y = new LeavenHouse();
        Edges.tape(y, "day 1;pour 9;");
        y.end(6);
        y.feed(0x64617920, 0x323b2020, 0x20202020, 0x20202020, 0x20202020);
        Edges.due("text()", y.text(), 0);
        y.played(0);
        Edges.due("day 1 and day 2", y.is(0), 3);
    }

    private static void text() {
        Edges.promise(4, "The tape (empty then) is a TEXT: its number. NONE: it has a FAULT; or (the tape stays) there are 4");
        LeavenHouse x = new LeavenHouse();
        Edges.due("of an empty tape", x.text(), 0);
        Edges.tape(x, "day 1;");
        Edges.due("text()", x.text(), 1);
        Edges.due("empty then", x.about(6), 0);
        Edges.tape(x, "day;");
        Edges.due("a FAULT", x.text(), -1);
        Edges.due("no TEXT", x.about(0), 2);
        Edges.due("empty then", x.about(6), 0);
        Edges.due("by(2)", x.by(2), false);
        Edges.due("of an empty tape", x.text(), 2);
        Edges.due("TEXTS", x.about(0), 3);
    }

    private static void textWithFour() {
        Edges.promise(4, "or (the tape stays) there are 4");
        LeavenHouse x = new LeavenHouse();
        Edges.read(x, "day 1;");
        Edges.read(x, "day 2;");
        x.image();
        Edges.read(x, "day 3;");
        Edges.due("the fourth", Edges.read(x, "day 4;"), 3);
        Edges.tape(x, "day 5;");
        Edges.due("text()", x.text(), -1);
        Edges.due("the tape stays", x.about(6), 6);
        Edges.due("TEXTS", x.about(0), 4);
        Edges.tape(x, "day 99;");
        Edges.due("text()", x.text(), -1);
        Edges.due("it wasn't read", x.fault(0), 0);
        Edges.due("the tape stays", x.about(6), 7);
        x.end(0);
        Edges.due("of an empty tape", x.text(), -1);
        Edges.tape(x, "day 6;");
        x.back();
        Edges.due("two are there again", x.text(), 2);
        x.played(0);
        x.played(1);
        x.played(2);
        Edges.due("each is its own", x.is(0), 9);
        Edges.due("played(3)", x.played(3), -2);
    }

    private static void fault() {
        Edges.promise(5, "Of the latest text that was read: 0 its FAULT (0 without), 1 its place (NONE without). NONE for others, and ahead of any");
        LeavenHouse x = new LeavenHouse();
        for (int what = -2; what <= 3; what++) {
            Edges.due("ahead of any", x.fault(what), -1);
        }
        Edges.tape(x, "x");
        Edges.due("it isn't read yet", x.fault(0), -1);
        x.text();
        Edges.due("fault(0)", x.fault(0), 1);
        Edges.due("fault(1)", x.fault(1), 0);
        Edges.due("fault(-1)", x.fault(-1), -1);
        Edges.due("fault(2)", x.fault(2), -1);
        for (int far : FAR) {
            Edges.due("fault(" + far + ")", x.fault(far), -1);
        }
        x.text();
        Edges.due("fault(0) without", x.fault(0), 0);
        Edges.due("fault(1) without", x.fault(1), -1);
        Edges.read(x, "pour 0;pour 8;");
        Edges.due("fault(0)", x.fault(0), 2);
        Edges.due("fault(1)", x.fault(1), 12);
    }

    private static void by() {
        Edges.promise(6, "THE TEXT (NONE: none): true. False for others");
        LeavenHouse x = new LeavenHouse();
        Edges.due("by(0)", x.by(0), false);
        Edges.due("by(-1)", x.by(-1), true);
        Edges.due("by(-2)", x.by(-2), false);
        Edges.read(x, "tires 5;");
        Edges.read(x, "tires 6;");
        Edges.due("by(1)", x.by(1), true);
        Edges.due("by(2)", x.by(2), false);
        for (int far : FAR) {
            Edges.due("by(" + far + ")", x.by(far), false);
        }
        Edges.due("it stays", x.about(1), 1);
        Edges.due("it rules", x.of(0, 2), 6);
        x.back();
        Edges.due("by(0)", x.by(0), false);
        Edges.due("about(1)", x.about(1), -1);
    }

    private static void join() {
        Edges.promise(7, "JOINED: the CROCK it stands in. NONE, if it can't be, and for others");
        LeavenHouse x = Edges.full();
        x.pour(3);
        List<Long> before = Edges.house(x);
        for (int other : new int[] {-1, 8, 3, Edges.MIN, Edges.MAX, 16, -8}) {
            Edges.due("join(" + other + ", 0)", x.join(other, 0), -1);
            Edges.due("join(0, " + other + ")", x.join(0, other), -1);
            Edges.due("join(" + other + ", " + other + ")", x.join(other, other), -1);
        }
        Edges.like("nothing is done", Edges.house(x), before);
        Edges.due("join(0, 7)", x.join(0, 7), 3);
        Edges.due("of(3, 0)", x.of(3, 0), 129);
        Edges.due("join(7, 0)", x.join(7, 0), -1);
        x.pour(0);
        Edges.due("join(7, 7)", x.join(7, 7), 0);
        Edges.due("of(0, 0)", x.of(0, 0), 256);
    }

    private static void pourAndBake() {
        LeavenHouse x = Edges.full();
        x.pour(3);
        List<Long> before = Edges.house(x);
        for (int other : new int[] {-1, 8, 3, Edges.MIN, Edges.MAX, 16, -8}) {
            Edges.promise(8, "POURED: true. False, if it is empty, and for others");
            Edges.due("pour(" + other + ")", x.pour(other), false);
            Edges.promise(9, "BAKED: what it brings. NONE, if it is empty, and for others");
            Edges.due("bake(" + other + ")", x.bake(other), -1);
        }
        Edges.like("nothing is done", Edges.house(x), before);
        Edges.due("bake(7)", x.bake(7), 128);
        Edges.due("bake(7)", x.bake(7), -1);
        Edges.due("bake(0)", x.bake(0), 1);
        Edges.due("is(2)", x.is(2), 129);
        Edges.promise(8, "POURED: true. False, if it is empty, and for others");
        Edges.due("pour(7)", x.pour(7), false);
        Edges.due("pour(6)", x.pour(6), true);
        Edges.due("pour(6)", x.pour(6), false);
        Edges.promise(9, "BAKED: what it brings");
        LeavenHouse y = Edges.ruled("price 0-1;");
        Edges.due("it brings nothing, and is baked", y.bake(0), 0);
        Edges.due("is(3)", y.is(3), 0);
        Edges.due("a step", y.about(2), 1);
    }

    private static void day() {
        Edges.promise(10, "NONE for others, or beyond 9999 (nothing is done then)");
        LeavenHouse x = Edges.ruled("tires 0;");
        Edges.due("day(0)", x.day(0), -1);
        Edges.due("day(-1)", x.day(-1), -1);
        Edges.due("day(61)", x.day(61), -1);
        for (int far : FAR) {
            Edges.due("day(" + far + ")", x.day(far), -1);
        }
        Edges.due("nothing is done", x.is(0), 0);
        Edges.due("no step", x.about(2), 0);
        Edges.due("day(1)", x.day(1), 0);
        Edges.due("day(60)", x.day(60), 0);
        Edges.due("is(0)", x.is(0), 61);
        for (int day : new int[] {9938, 9939, 9940, 9999}) {
            LeavenHouse y = Edges.at(day);
            y.pour(0);
            List<Long> before = Edges.house(y);
            boolean beyond = day + 60 > 9999;
            Edges.due("day(60) at " + day, y.day(60), beyond ? -1 : 0);
            Edges.due("is(0)", y.is(0), beyond ? day : day + 60);
            if (beyond) {
                Edges.like("nothing is done then", Edges.house(y), before);
                Edges.due("undo()", y.undo(), 29);
                Edges.due("the latest step was another", y.is(3), 1);
            }
        }
    }

    private static void played() {
        Edges.promise(11, "PLAYED by a TEXT: NONE: all is done; else the number of the CLAUSE that can't be. -2 for others");
        LeavenHouse x = new LeavenHouse();
        Edges.due("played(0)", x.played(0), -2);
        Edges.due("played(-1)", x.played(-1), -2);
        Edges.read(x, "day 1;");
        Edges.read(x, "tires 1;pour 0;pour 0;");
        Edges.due("played(0)", x.played(0), -1);
        Edges.due("played(2)", x.played(2), -2);
        for (int far : FAR) {
            Edges.due("played(" + far + ")", x.played(far), -2);
        }
        Edges.due("is(0)", x.is(0), 1);
        Edges.due("played(1)", x.played(1), 2);
        Edges.due("played(1)", x.played(1), 1);
        x.back();
        Edges.due("played(0)", x.played(0), -2);
    }

    private static void years() {
        Edges.promise(12, "YEARS: DAY. NONE for others");
        LeavenHouse x = new LeavenHouse();
        List<Long> before = Edges.all(x);
        for (int other : new int[] {-1, 10000, Edges.MIN, Edges.MAX, 10001}) {
            Edges.due("years(" + other + ", 1)", x.years(other, 1), -1);
        }
        for (int other : new int[] {0, -1, 41, Edges.MIN, Edges.MAX}) {
            Edges.due("years(0, " + other + ")", x.years(0, other), -1);
        }
        Edges.like("nothing is done", Edges.all(x), before);
        for (int seed : new int[] {0, 1, 9998, 9999}) {
            for (int n : new int[] {1, 2, 39, 40}) {
                x.back();
                int day = x.years(seed, n);
                Edges.due("DAY", day, x.is(0));
                Edges.due("a step", x.about(2), 1);
                Model m = new Model();
                Edges.due("years(" + seed + ", " + n + ")", day, m.years(seed, n));
                Edges.due("X", x.is(1), m.is(1));
            }
        }
    }

    private static void undo() {
        Edges.promise(13, "The latest STEP is taken back: how many can be yet. NONE: there is none");
        LeavenHouse x = new LeavenHouse();
        List<Long> first = Edges.all(x);
        Edges.due("undo()", x.undo(), -1);
        Edges.like("nothing is done", Edges.all(x), first);
        x.join(0, 0);
        Edges.due("undo()", x.undo(), 0);
        Edges.due("undo()", x.undo(), -1);
        Edges.like("as ahead", Edges.all(x), first);
        x.join(0, 0);
        x.join(0, 0);
        Edges.due("undo()", x.undo(), 1);
        x.pour(1);
        Edges.due("undo()", x.undo(), 1);
        Edges.due("undo()", x.undo(), 0);
        Edges.due("undo()", x.undo(), -1);
        Edges.like("as ahead", Edges.all(x), first);
    }

    private static void of() {
        Edges.promise(14, "Of a CROCK: 0 POUNDS, 1 AGE, 2 tires, 3 price now. NONE for others");
        LeavenHouse x = Edges.ruled("tires age+number;price pounds*3+day;");
        Edges.fill(x);
        x.pour(6);
        x.join(0, 0);
        for (int crock : new int[] {0, 7}) {
            Edges.due("POUNDS", x.of(crock, 0), crock == 0 ? 1 : 128);
            Edges.due("AGE", x.of(crock, 1), 0);
            Edges.due("tires", x.of(crock, 2), crock);
            Edges.due("price", x.of(crock, 3), crock == 0 ? 3 : 384);
            Edges.due("of(" + crock + ", -1)", x.of(crock, -1), -1);
            Edges.due("of(" + crock + ", 4)", x.of(crock, 4), -1);
            for (int far : FAR) {
                Edges.due("of(" + crock + ", " + far + ")", x.of(crock, far), -1);
            }
        }
        for (int other : new int[] {-1, 8, Edges.MIN, Edges.MAX}) {
            for (int what = -1; what <= 4; what++) {
                Edges.due("of(" + other + ", " + what + ")", x.of(other, what), -1);
            }
        }
        x.pour(7);
        Edges.due("tires of none", x.of(7, 2), 7);
        Edges.due("price of none", x.of(7, 3), 0);
        x.day(1);
        Edges.due("price of none then", x.of(7, 3), 1);
    }

    private static void is() {
        Edges.promise(15, "0 DAY, 1 X, 2 FUND, 3 CROCKS with any (bits), 4 POUNDS of all. -2 for others");
        LeavenHouse x = Edges.full();
        Edges.due("is(-1)", x.is(-1), -2);
        Edges.due("is(0)", x.is(0), 0);
        Edges.due("is(1)", x.is(1), 433);
        Edges.due("is(2)", x.is(2), 0);
        Edges.due("is(3)", x.is(3), 255);
        Edges.due("is(4)", x.is(4), 255);
        Edges.due("is(5)", x.is(5), -2);
        for (int far : FAR) {
            Edges.due("is(" + far + ")", x.is(far), -2);
        }
        for (int i = 0; i < 8; i++) {
            x.pour(i);
            Edges.due("is(3)", x.is(3), 255 & -(2 << i));
            Edges.due("is(4)", x.is(4), 255 & -(2 << i));
        }
    }

    private static void book() {
        Edges.promise(16, "BOOK: how many (i NONE); the i-th, from the eldest on: 0 DAY, 1 what (0 joined, 1 poured, 2 baked, 3 tired), 2 CROCK, 3 POUNDS. -2 if there is none such, and for others");
        LeavenHouse x = new LeavenHouse();
        Edges.due("book(-1, 0)", x.book(-1, 0), 0);
        Edges.due("book(0, 0)", x.book(0, 0), -2);
        x.join(0, 0);
        x.pour(0);
        Edges.due("book(-1, 0)", x.book(-1, 0), 2);
        Edges.due("book(-1, 3)", x.book(-1, 3), 2);
        Edges.due("book(-2, 0)", x.book(-2, 0), -2);
        Edges.due("book(2, 0)", x.book(2, 0), -2);
        int[][] lines = {{0, 0, 1, 2}, {0, 1, 0, 1}};
        for (int i = 0; i < 2; i++) {
            Edges.due("book(" + i + ", -1)", x.book(i, -1), -2);
            for (int what = 0; what < 4; what++) {
                Edges.due("book(" + i + ", " + what + ")", x.book(i, what), lines[i][what]);
            }
            Edges.due("book(" + i + ", 4)", x.book(i, 4), -2);
            for (int far : FAR) {
                Edges.due("book(" + i + ", " + far + ")", x.book(i, far), -2);
            }
        }
        for (int far : FAR) {
            Edges.due("book(" + far + ", 0)", x.book(far, 0), -2);
        }
        Edges.due("book(24, 0)", x.book(24, 0), -2);
        Edges.due("book(25, 0)", x.book(25, 0), -2);
    }

    private static void said() {
        Edges.term("WHOSE LAW (told: SAID, 8 at most: a CROCK, tires 0 .. 10)");
        Edges.promise(40, "SAID: how many there are (crock NONE: none any more). -2 for others (0 .. 10), or if there are 8");
        LeavenHouse x = new LeavenHouse();
        for (int other : new int[] {8, Edges.MIN, Edges.MAX, -2}) {
            Edges.due("said(" + other + ", 0)", x.said(other, 0), -2);
        }
        for (int other : new int[] {-1, 11, Edges.MIN, Edges.MAX, -2}) {
            Edges.due("said(0, " + other + ")", x.said(0, other), -2);
        }
        Edges.due("about(5)", x.about(5), 0);
        int[][] told = {{0, 0}, {7, 10}, {0, 10}, {7, 0}, {3, 3}, {3, 3}, {1, 1}, {2, 2}};
        for (int i = 0; i < 8; i++) {
            Edges.due("said", x.said(told[i][0], told[i][1]), i + 1);
        }
        Edges.due("the ninth", x.said(4, 4), -2);
        Edges.due("about(5)", x.about(5), 8);
        Edges.due("said(-1, 0)", x.said(-1, 0), 0);
        Edges.due("about(5)", x.about(5), 0);
        Edges.due("said(-1, 10)", x.said(-1, 10), 0);
        Edges.due("said(4, 4)", x.said(4, 4), 1);
    }

    private static void whose() {
        Edges.term("TEXTS (bits) by whose tires all are so (as now)");
        Edges.promise(41, "WHOSE LAW (bits)");
        LeavenHouse x = new LeavenHouse();
        Edges.due("no TEXTS, none SAID", x.whose(), 0);
        x.said(0, 2);
        Edges.due("no TEXTS", x.whose(), 0);
        x.said(-1, 0);
        Edges.read(x, "tires 2;");
        Edges.due("none SAID", x.whose(), 1);
        Edges.read(x, "price 9;");
        Edges.read(x, "tires pounds*2;");
        Edges.read(x, "tires 12-pounds*20;");
        Edges.due("none SAID", x.whose(), 15);
        x.said(0, 2);
        // 12 - 20 is below 0: 0 at least.
        Edges.due("crock 0: 2", x.whose(), 7);
        x.said(7, 2);
        Edges.due("crock 7: 2", x.whose(), 3);
        x.said(7, 0);
        Edges.due("crock 7: 0, too", x.whose(), 0);
        x.said(-1, 0);
        x.said(0, 0);
        Edges.due("crock 0: 0", x.whose(), 8);
        x.said(1, 10);
        Edges.due("crock 1: 10", x.whose(), 8);
        x.join(0, 0);
        Edges.due("as now", x.whose(), 0);
        x.by(2);
        Edges.due("whoever rules", x.whose(), 0);
        x.undo();
        Edges.due("as now", x.whose(), 8);
    }

    private static void oldestAndFullest() {
        Edges.term("OLDEST: the CROCK with any of most AGE; of like ones the lowest; none. FULLEST: that of most POUNDS (above 0); likewise");
        LeavenHouse x = Edges.ruled("tires 0;");
        Edges.promise(42, "OLDEST. NONE: none");
        Edges.due("of AGE 0", x.oldest(), 0);
        x.join(0, 0);
        Edges.due("like ones", x.oldest(), 0);
        x.day(1);
        x.join(1, 1);
        x.pour(0);
        Edges.due("the elder", x.oldest(), 1);
        x.join(1, 2);
        Edges.due("the younger is lower", x.oldest(), 1);
        x.pour(1);
        Edges.due("like ones", x.oldest(), 0);
        Edges.promise(43, "FULLEST. NONE: none");
        Edges.due("6 and 4", x.fullest(), 0);
        x.join(2, 2);
        Edges.due("8", x.fullest(), 1);
        x.join(2, 2);
        Edges.due("like ones", x.fullest(), 1);
        x.pour(0);
        x.pour(1);
        x.pour(2);
        Edges.due("the last", x.fullest(), 3);
        x.pour(3);
        Edges.due("none", x.fullest(), -1);
        Edges.promise(42, "OLDEST. NONE: none");
        Edges.due("none", x.oldest(), -1);
        LeavenHouse y = Edges.full();
        y.pour(7);
        Edges.due("the last but one", y.fullest(), 6);
        y.join(6, 6);
        Edges.due("the last", y.fullest(), 7);
    }

    private static void can() {
        Edges.term("CAN: the two CROCKS with any (bits; one, if it is one twice) with so many POUNDS together: of the lowest one, then the lowest other; none");
        Edges.promise(44, "CAN: CROCKS (bits). NONE: no way, and for others (1 .. 19998)");
        LeavenHouse x = Edges.full();
        Edges.due("can(0)", x.can(0), -1);
        Edges.due("can(1)", x.can(1), -1);
        Edges.due("can(2)", x.can(2), 1);
        Edges.due("can(3)", x.can(3), 3);
        Edges.due("can(129)", x.can(129), 129);
        Edges.due("can(256)", x.can(256), 128);
        Edges.due("can(257)", x.can(257), -1);
        x.pour(1);
        // A crock without any joins nothing: 1 isn't 1 and none.
        Edges.due("can(1)", x.can(1), -1);
        x.join(0, 0);
        x.pour(2);
        x.join(0, 0);
        // 1 2 2 8 16 ..: 4 is crock 1 twice ahead of crocks 1 and 2; 3 is 0 and 1.
        Edges.due("can(4)", x.can(4), 2);
        Edges.due("can(3)", x.can(3), 3);
        Edges.due("can(10)", x.can(10), 2 | 8);
        for (int far : FAR) {
            Edges.due("can(" + far + ")", x.can(far), -1);
        }
        LeavenHouse y = new LeavenHouse();
        int at = Edges.heavy(y, 9999);
        Edges.due("can(19998)", y.can(19998), 1 << at);
        Edges.due("can(19999)", y.can(19999), -1);
        Edges.due("can(19997)", y.can(19997), -1);
        Edges.due("can(10000)", y.can(10000), 1 << at | 1);
        for (int i = 0; i < 8; i++) {
            y.pour(i);
        }
        Edges.due("can(1)", y.can(1), -1);
        Edges.due("can(0)", y.can(0), -1);
    }

    private static void ledger() {
        Edges.term("BY THE BOOK: how many lines there are of a kind");
        Edges.promise(45, "BY THE BOOK. -2 for others (0 .. 3)");
        LeavenHouse x = Edges.ruled("tires 10;");
        for (int what = 0; what < 4; what++) {
            Edges.due("ledger(" + what + ")", x.ledger(what), 0);
        }
        Edges.due("ledger(-1)", x.ledger(-1), -2);
        Edges.due("ledger(4)", x.ledger(4), -2);
        for (int far : FAR) {
            Edges.due("ledger(" + far + ")", x.ledger(far), -2);
        }
        x.join(0, 0);
        x.join(1, 1);
        x.join(2, 2);
        x.pour(0);
        x.bake(1);
        x.bake(3);
        x.day(1);
        int[] due = {3, 1, 2, 1};
        for (int what = 0; what < 4; what++) {
            Edges.due("ledger(" + what + ")", x.ledger(what), due[what]);
        }
        for (int i = 0; i < 9; i++) {
            x.join(2, 2);
            x.pour(0);
        }
        // 7 + 18 lines: none fell out yet; of two more joined ones do.
        Edges.due("ledger(0)", x.ledger(0), 12);
        x.join(2, 2);
        x.pour(0);
        Edges.due("ledger(0)", x.ledger(0), 11);
        Edges.due("ledger(1)", x.ledger(1), 11);
        x.undo();
        x.undo();
        Edges.due("ledger(0)", x.ledger(0), 12);
    }

    private static void imageAndBack() {
        Edges.promise(46, "THE IMAGE is as all is now: DAY");
        LeavenHouse x = Edges.ruled("tires 0;");
        Edges.due("image()", x.image(), 0);
        x.day(5);
        Edges.due("image()", x.image(), 5);
        Edges.promise(47, "BACK to THE IMAGE (it stays): DAY");
        for (int round = 0; round < 3; round++) {
            x.day(2);
            x.join(0, 0);
            Edges.due("back()", x.back(), 5);
            Edges.due("is(0)", x.is(0), 5);
            Edges.due("is(3)", x.is(3), 1);
            Edges.due("STEPS", x.about(2), 5);
        }
        Edges.due("back()", x.back(), 5);
        Edges.due("undo()", x.undo(), 4);
        Edges.due("back()", x.back(), 5);
        Edges.due("STEPS", x.about(2), 5);
        LeavenHouse y = Edges.at(9999);
        Edges.due("image()", y.image(), 9999);
        y.undo();
        Edges.due("back()", y.back(), 9999);
        // Thirty steps go over the end of their row and come again with THE IMAGE.
        LeavenHouse z = Edges.ruled("tires 0;");
        z.day(47);
        z.image();
        z.day(20);
        Edges.due("back()", z.back(), 47);
        for (int i = 29; i >= 0; i--) {
            Edges.due("undo()", z.undo(), i);
            Edges.due("is(0)", z.is(0), i + 17);
        }
        Edges.due("undo()", z.undo(), -1);
    }

    private static void about() {
        Edges.promise(48, "0 TEXTS, 1 THE TEXT (NONE), 2 STEPS that can be taken back, 3 ORDERS, 4 numbers of A CHAIN told, 5 SAID, 6 bytes of the tape. -2 for others");
        LeavenHouse x = new LeavenHouse();
        int[] first = {0, -1, 0, 0, 1, 0, 0};
        for (int i = 0; i < 7; i++) {
            Edges.due("about(" + i + ")", x.about(i), first[i]);
        }
        Edges.due("about(-1)", x.about(-1), -2);
        Edges.due("about(7)", x.about(7), -2);
        for (int far : FAR) {
            Edges.due("about(" + far + ")", x.about(far), -2);
        }
        for (int i = 0; i < 4; i++) {
            Edges.read(x, "tires 0;");
        }
        x.by(3);
        x.day(60);
        for (int i = 0; i < 12; i++) {
            x.order(9);
            x.tell(2);
            x.said(1, 1);
        }
        Edges.tape(x, " ".repeat(300));
        int[] most = {4, 3, 30, 4, 12, 8, 300};
        for (int i = 0; i < 7; i++) {
            Edges.due("about(" + i + ")", x.about(i), most[i]);
        }
    }

    private interface Asking {
        long of(LeavenHouse x);
    }

    private static void nothingElseChanges() {
        Edges.term("All that follows changes nothing but what is told");
        List<Asking> all = new ArrayList<>(List.of(x -> x.fewest(23), x -> x.chain(23, 3),
                x -> x.chains(23), x -> x.halves(23), x -> x.parts(23), x -> x.hardest(1, 20),
                x -> x.cost(23, 2, 3), x -> x.few(23, 2), x -> x.spoons(23), x -> x.both(5, 7)));
        all.addAll(List.of(x -> x.made(-1), x -> x.made(2), x -> x.reach(4), x -> x.reached(5, 3),
                x -> x.first(7), x -> x.wrong(), x -> x.needless(), x -> x.star() ? 1 : 0,
                x -> x.steps(true), x -> x.game(9)));
        all.addAll(List.of(x -> x.play(9), x -> x.whose(), x -> x.oldest(), x -> x.fullest(),
                x -> x.can(6), x -> x.ledger(0), x -> x.foretold(60, 1), x -> x.about(2),
                x -> x.of(1, 2), x -> x.is(1)));
        all.addAll(List.of(x -> x.book(0, 0), x -> x.fault(0), x -> x.of(1, 3), x -> x.about(6),
                x -> x.image()));
        for (int i = 0; i < all.size(); i++) {
            LeavenHouse x = Edges.ruled("tires 3+age;price pounds*2;");
            x.join(0, 0);
            x.join(1, 1);
            x.day(2);
            x.order(9);
            x.order(14);
            x.tell(2);
            x.tell(3);
            x.said(0, 4);
            Edges.read(x, "pour 8;");
            Edges.tape(x, "day 1;");
            List<Long> before = Edges.all(x);
            long answer = all.get(i).of(x);
            Edges.due("asked again, " + i, all.get(i).of(x), answer);
            Edges.like("behind asking " + i, Edges.all(x), before);
            Edges.due("undo()", x.undo(), 3);
            Edges.due("is(0)", x.is(0), 1);
        }
    }
}
