import java.util.ArrayList;
import java.util.List;

/** The edges of "Terms" (crocks, fund, day, book, steps) and of V (years, the image). */
final class HouseEdges {
    private HouseEdges() {
    }

    static void run() {
        crocks();
        ages();
        fundToItsMost();
        fundBeyondItsMost();
        lastDays();
        bookOf25();
        joinsOfAny();
        joinsTo9999();
        joinsIntoTheLowest();
        poured();
        bakedAtThePriceAhead();
        daysDraw();
        drawsBelowTires();
        tiresAsItIsThen();
        half();
        linesWritten();
        thirtySteps();
        whatIsAStep();
        stepsTakenBack();
        yearsByDraws();
        yearsThatDoNothing();
        yearsAtTheLastDay();
        imageOfAll();
        fullBooksComeAgain();
        imageWithoutTapeAndFault();
    }

    private static void crocks() {
        Edges.term("CROCKS 0 .. 7: POUNDS 0 .. 9999 (at first 1 in CROCK 0, none in others), AGE 0 .. 99 (at first 0)");
        LeavenHouse x = new LeavenHouse();
        for (int i = 0; i < 8; i++) {
            Edges.due("of(" + i + ", 0)", x.of(i, 0), i == 0 ? 1 : 0);
            Edges.due("of(" + i + ", 1)", x.of(i, 1), 0);
        }
        LeavenHouse y = Edges.full();
        Edges.due("of(-1, 0)", y.of(-1, 0), -1);
        Edges.due("of(0, 0)", y.of(0, 0), 1);
        Edges.due("of(7, 0)", y.of(7, 0), 128);
        Edges.due("of(8, 0)", y.of(8, 0), -1);
        Edges.term("FUND 0 .. 999999 (at first 0; no more). DAY 0 .. 9999 (at first 0). X: at first 433. BOOK (the latest 25)");
        Edges.due("DAY", x.is(0), 0);
        Edges.due("X", x.is(1), 433);
        Edges.due("FUND", x.is(2), 0);
        Edges.due("BOOK", x.book(-1, 0), 0);
    }

    private static void ages() {
        Edges.term("AGE is 1 more (99 at most)");
        LeavenHouse x = Edges.at(97);
        for (int age : new int[] {98, 99, 99, 99}) {
            x.day(1);
            Edges.due("AGE", x.of(0, 1), age);
        }
        Edges.due("AGE without any", x.of(1, 1), 0);
        x.join(0, 0);
        Edges.due("AGE anew", x.of(1, 1), 0);
        Edges.due("AGE stays", x.of(0, 1), 99);
        x.day(60);
        x.day(39);
        Edges.due("AGE", x.of(1, 1), 99);
        x.day(1);
        Edges.due("AGE", x.of(1, 1), 99);
    }

    /** A house with 999900 in the fund, ruled by text 0 (price 9999); crock 0 has its pound. */
    private static LeavenHouse rich() {
        LeavenHouse x = Edges.ruled("price 9999;");
        for (int i = 0; i < 100; i++) {
            x.join(0, 0);
            Edges.due("bake(1)", x.bake(1), 9999);
        }
        Edges.due("is(2)", x.is(2), 999900);
        return x;
    }

    private static void bakeFor(LeavenHouse x, int price, int fund) {
        Edges.rule(x, "price " + price + ";");
        x.join(0, 0);
        Edges.due("bake for " + price, x.bake(1), price);
        Edges.due("is(2)", x.is(2), fund);
    }

    private static void fundToItsMost() {
        Edges.term("FUND 999999 at most, it brings all the same");
        LeavenHouse x = rich();
        bakeFor(x, 98, 999998);
        bakeFor(x, 1, 999999);
        bakeFor(x, 1, 999999);
        x.by(0);
        x.join(0, 0);
        Edges.due("bake(1)", x.bake(1), 9999);
        Edges.due("is(2)", x.is(2), 999999);
        Edges.due("the price by the fund", x.of(0, 3), 9999);
        x.undo();
        x.undo();
        x.undo();
        x.undo();
        x.undo();
        x.undo();
        Edges.due("taken back", x.is(2), 999998);
    }

    private static void fundBeyondItsMost() {
        Edges.term("FUND 999999 at most, it brings all the same");
        LeavenHouse x = rich();
        bakeFor(x, 99, 999999);
        x.undo();
        bakeFor(x, 98, 999998);
        x.join(0, 0);
        x.by(0);
        Edges.due("bake(1)", x.bake(1), 9999);
        Edges.due("is(2)", x.is(2), 999999);
        bakeFor(x, 0, 999999);
    }

    private static void lastDays() {
        Edges.term("DAY is one more (at 9999 none can pass)");
        LeavenHouse x = Edges.at(9998);
        Edges.due("day(1)", x.day(1), 0);
        Edges.due("is(0)", x.is(0), 9999);
        int drawn = x.is(1);
        Edges.due("day(1)", x.day(1), -1);
        Edges.due("is(0)", x.is(0), 9999);
        Edges.due("nothing is drawn", x.is(1), drawn);
        Edges.due("undo()", x.undo(), 29);
        Edges.due("is(0)", x.is(0), 9998);
        Edges.due("day(1)", x.day(1), 0);
    }

    private static void bookOf25() {
        Edges.term("BOOK (the latest 25)");
        LeavenHouse x = new LeavenHouse();
        List<Integer> pounds = new ArrayList<>();
        for (int i = 0; i < 27; i++) {
            // Crock 1 is 2, crock 2 is 3, crock 3 is 4 ..; each line has other pounds till 9.
            int crock = i % 14 / 2 + 1;
            if (i % 14 < 7) {
                pounds.add(i % 14 + 2);
                x.join(0, i % 14);
            } else {
                crock = i % 14 - 6;
                pounds.add(crock + 1);
                x.pour(crock);
            }
            int lines = Math.min(25, i + 1);
            Edges.due("book(-1, 0)", x.book(-1, 0), lines);
            Edges.due("the eldest", x.book(0, 3), pounds.get(pounds.size() - lines));
            Edges.due("the latest", x.book(lines - 1, 3), pounds.get(i));
            Edges.due("none such", x.book(lines, 3), -2);
        }
        for (int i = 0; i < 25; i++) {
            Edges.due("book(" + i + ", 3)", x.book(i, 3), pounds.get(i + 2));
        }
        int sum = x.ledger(0) + x.ledger(1) + x.ledger(2) + x.ledger(3);
        Edges.due("all kinds", sum, 25);
    }

    private static void joinsOfAny() {
        Edges.term("JOINED: of two CROCKS with any (one twice, too)");
        LeavenHouse x = new LeavenHouse();
        Edges.due("join(0, 1)", x.join(0, 1), -1);
        Edges.due("join(1, 0)", x.join(1, 0), -1);
        Edges.due("join(1, 1)", x.join(1, 1), -1);
        Edges.due("join(0, 0)", x.join(0, 0), 1);
        Edges.term("as many POUNDS as both together");
        Edges.due("of(1, 0)", x.of(1, 0), 2);
        Edges.due("join(0, 1)", x.join(0, 1), 2);
        Edges.due("of(2, 0)", x.of(2, 0), 3);
        Edges.term("JOINED: of two CROCKS with any (one twice, too)");
        x.pour(1);
        Edges.due("join(1, 2)", x.join(1, 2), -1);
        Edges.due("join(2, 1)", x.join(2, 1), -1);
        Edges.term("both stay as they are");
        LeavenHouse y = Edges.at(3);
        y.join(0, 0);
        y.day(2);
        y.join(0, 1);
        int[] pounds = {1, 2, 3};
        int[] ages = {5, 2, 0};
        for (int i = 0; i < 3; i++) {
            Edges.due("POUNDS", y.of(i, 0), pounds[i]);
            Edges.due("AGE", y.of(i, 1), ages[i]);
        }
    }

    private static void joinsTo9999() {
        Edges.term("(9999 at most, else it can't be)");
        LeavenHouse x = new LeavenHouse();
        int most = Edges.heavy(x, 9998);
        int at = x.join(most, 0);
        Edges.due("9998 and 1", x.of(at, 0), 9999);
        List<Long> before = Edges.house(x);
        Edges.due("9999 and 1", x.join(at, 0), -1);
        Edges.due("1 and 9999", x.join(0, at), -1);
        Edges.due("9999 twice", x.join(at, at), -1);
        Edges.due("9998 and 9999", x.join(most, at), -1);
        Edges.like("nothing is done", Edges.house(x), before);
        LeavenHouse y = new LeavenHouse();
        int half = Edges.heavy(y, 4999);
        int more = y.join(half, 0);
        int sum = y.join(half, more);
        Edges.due("4999 and 5000", y.of(sum, 0), 9999);
        Edges.due("5000 twice", y.join(more, more), -1);
        int twice = y.join(half, half);
        Edges.due("4999 twice", y.of(twice, 0), 9998);
    }

    private static void joinsIntoTheLowest() {
        Edges.term("stand in the lowest CROCK without any, of AGE 0 (none such: it can't be)");
        LeavenHouse x = Edges.ruled("tires 0;");
        for (int i = 0; i < 7; i++) {
            Edges.due("join(0, 0)", x.join(0, 0), i + 1);
        }
        List<Long> before = Edges.house(x);
        Edges.due("all have any", x.join(0, 0), -1);
        Edges.like("nothing is done", Edges.house(x), before);
        x.day(5);
        x.pour(7);
        x.pour(2);
        Edges.due("the lowest", x.join(0, 1), 2);
        Edges.due("AGE", x.of(2, 1), 0);
        Edges.due("AGE of another", x.of(3, 1), 5);
        Edges.due("the last", x.join(0, 2), 7);
        Edges.due("AGE", x.of(7, 1), 0);
        Edges.due("none such", x.join(0, 0), -1);
        x.pour(0);
        Edges.due("crock 0", x.join(7, 7), 0);
        Edges.due("AGE", x.of(0, 1), 0);
        Edges.due("POUNDS", x.of(0, 0), 8);
    }

    private static void poured() {
        Edges.term("POURED: POUNDS, AGE 0");
        LeavenHouse x = Edges.at(7);
        Edges.due("AGE", x.of(0, 1), 7);
        Edges.due("pour(0)", x.pour(0), true);
        Edges.due("POUNDS", x.of(0, 0), 0);
        Edges.due("AGE", x.of(0, 1), 0);
        Edges.due("no fund", x.is(2), 0);
        Edges.due("pour(0)", x.pour(0), false);
    }

    private static void bakedAtThePriceAhead() {
        Edges.term("BAKED: FUND is more by price (as it is ahead;");
        LeavenHouse x = Edges.ruled("tires 0;price fund*100+full*10+pounds+age+crock number*1000;");
        x.join(0, 0);
        x.day(3);
        Edges.due("of(1, 3)", x.of(1, 3), 2025);
        Edges.due("bake(1)", x.bake(1), 2025);
        Edges.due("FUND", x.is(2), 2025);
        Edges.due("the most", x.bake(0), 9999);
        Edges.due("FUND", x.is(2), 12024);
        Edges.term("it brings all the same); POUNDS, AGE 0");
        Edges.due("POUNDS", x.of(0, 0), 0);
        Edges.due("AGE", x.of(0, 1), 0);
        Edges.term("FUND is more by price (as it is ahead;");
        LeavenHouse y = Edges.ruled("price fund+5;");
        y.join(0, 0);
        Edges.due("bake(0)", y.bake(0), 5);
        Edges.due("bake(1)", y.bake(1), 10);
        Edges.due("FUND", y.is(2), 15);
    }

    private static void daysDraw() {
        Edges.term("A DAY: CROCKS with any by number: AGE is 1 more (99 at most); a draw by 10 (X mod 10, X being (X * 683 + 563) mod 30997 then)");
        for (int crocks = 1; crocks <= 8; crocks++) {
            LeavenHouse x = Edges.ruled("tires 0;");
            for (int i = 1; i < crocks; i++) {
                x.join(0, 0);
            }
            x.day(1);
            Edges.due("X of " + crocks, x.is(1), Edges.drawn(433, crocks));
            Edges.due("AGE", x.of(crocks - 1, 1), 1);
            Edges.due("AGE without any", crocks < 8 ? x.of(crocks, 1) : 0, 0);
            x.pour(0);
            x.day(2);
            Edges.due("X of one less", x.is(1), Edges.drawn(433, crocks + 2 * (crocks - 1)));
            Edges.due("AGE without any", x.of(0, 1), 0);
        }
        LeavenHouse y = new LeavenHouse();
        y.pour(0);
        Edges.due("none has any", y.day(1), 0);
        Edges.due("DAY", y.is(0), 1);
        Edges.due("X", y.is(1), 433);
        Edges.due("a step", y.about(2), 2);
    }

    /** A house whose first draw is that one by 10: years that did nothing have set X. */
    private static LeavenHouse drawing(int due, String law) {
        for (int seed = 0; seed < 10000; seed++) {
            int x = seed * 2 + 433;
            // x mod 6 is 3 and x mod 4 isn't 1: nothing is done.
            if (x % 6 == 3 && x % 4 != 1 && Edges.drawn(x) % 10 == due) {
                LeavenHouse house = Edges.ruled(law);
                Edges.due("years", house.years(seed, 1), 0);
                Edges.due("X mod 10", house.is(1) % 10, due);
                return house;
            }
        }
        return Edges.ruled(law);
    }

    private static void drawsBelowTires() {
        Edges.term("below tires (as it is then) it has tired");
        for (int draw = 0; draw < 10; draw++) {
            for (int tires = 0; tires <= 10; tires++) {
                LeavenHouse x = drawing(draw, "tires " + tires + ";");
                Edges.due(draw + " below " + tires, x.day(1), draw < tires ? 1 : 0);
                Edges.due("POUNDS", x.of(0, 0), draw < tires ? 0 : 1);
            }
        }
        // 433 and 17329: 3 and 9 by 10.
        LeavenHouse y = Edges.ruled("tires if number=0 then 3 else 9 end;");
        y.join(0, 0);
        Edges.due("3 below 3, 9 below 9", y.day(1), 0);
        LeavenHouse z = Edges.ruled("tires if number=0 then 4 else 10 end;");
        z.join(0, 0);
        Edges.due("3 below 4, 9 below 10", z.day(1), 2);
    }

    private static void tiresAsItIsThen() {
        Edges.term("below tires (as it is then) it has tired");
        LeavenHouse x = Edges.ruled("tires 10-age*10;");
        Edges.due("ahead", x.of(0, 2), 10);
        Edges.due("the age is 1 then", x.day(1), 0);
        LeavenHouse y = Edges.ruled("tires age*10;");
        Edges.due("ahead", y.of(0, 2), 0);
        Edges.due("the age is 1 then", y.day(1), 1);
        LeavenHouse z = Edges.ruled("tires 10*(1-crock(number-1))*number+10*(1-number);");
        z.join(0, 0);
        Edges.due("ahead", z.of(1, 2), 0);
        Edges.due("crock 0 has none then", z.day(1), 2);
        LeavenHouse v = Edges.ruled("tires if number=0 or full=1 then 10 else 0 end;");
        v.join(0, 0);
        Edges.due("one is full then", v.day(1), 2);
        LeavenHouse w = Edges.ruled("tires if day=1 then 10 else 0 end;");
        Edges.due("DAY 0", w.day(1), 0);
        Edges.due("DAY 1", w.day(1), 1);
    }

    private static void half() {
        Edges.term("POUNDS half (cut; none: AGE 0)");
        for (int pounds : new int[] {1, 2, 3, 4, 5, 9998, 9999}) {
            LeavenHouse x = new LeavenHouse();
            int at = pounds == 1 ? 0 : Edges.heavy(x, pounds);
            Edges.rule(x, "tires if number=" + at + " then 10 else 0 end;");
            Edges.due("day(1)", x.day(1), 1);
            Edges.due("half of " + pounds, x.of(at, 0), pounds / 2);
            Edges.due("AGE", x.of(at, 1), pounds == 1 ? 0 : 1);
        }
        Edges.promise(10, "DAYS pass (1 .. 60): how many CROCKS tire in them");
        LeavenHouse y = Edges.ruled("tires 10;");
        Edges.fill(y);
        // 1 tires once, 2 twice .. 128 eight times.
        Edges.due("day(60)", y.day(60), 36);
        Edges.due("none has any", y.is(3), 0);
    }

    private static void line(LeavenHouse x, int i, int... due) {
        for (int what = 0; what < 4; what++) {
            Edges.due("book(" + i + ", " + what + ")", x.book(i, what), due[what]);
        }
    }

    private static void linesWritten() {
        Edges.term("Joined, poured (POUNDS ahead), baked (POUNDS ahead), tired (POUNDS then) are written down");
        LeavenHouse x = Edges.ruled("tires if day=1 then 10 else 0 end;price 70;");
        x.join(0, 0);
        x.join(1, 0);
        x.day(1);
        x.join(1, 2);
        x.pour(1);
        x.day(1);
        x.bake(3);
        x.join(1, 1);
        x.join(2, 8);
        x.pour(5);
        x.bake(5);
        line(x, 0, 0, 0, 1, 2);
        line(x, 1, 0, 0, 2, 3);
        line(x, 2, 1, 0, 3, 5);
        line(x, 3, 1, 1, 1, 2);
        line(x, 4, 1, 3, 0, 0);
        line(x, 5, 1, 3, 2, 1);
        line(x, 6, 1, 3, 3, 2);
        line(x, 7, 2, 2, 3, 2);
        Edges.due("what can't be isn't written", x.book(-1, 0), 8);
        LeavenHouse y = Edges.at(9999);
        int at = Edges.heavy(y, 9999);
        line(y, y.book(-1, 0) - 2, 9999, 0, at, 9999);
        y.pour(at);
        line(y, y.book(-1, 0) - 1, 9999, 1, at, 9999);
        linesOfLastDays();
    }

    private static void linesOfLastDays() {
        for (int day : new int[] {0, 1, 9998}) {
            LeavenHouse x = Edges.at(day);
            Edges.fill(x);
            Edges.rule(x, "tires if number=7 or number=0 then 10 else 0 end;");
            x.pour(6);
            x.bake(1);
            x.day(1);
            line(x, 0, day, 0, 1, 2);
            line(x, 6, day, 0, 7, 128);
            line(x, 7, day, 1, 6, 64);
            line(x, 8, day, 2, 1, 2);
            line(x, 9, day, 3, 0, 0);
            line(x, 10, day, 3, 7, 64);
            x.bake(7);
            line(x, 11, day + 1, 2, 7, 64);
            x.join(2, 2);
            line(x, 12, day + 1, 0, 0, 8);
        }
    }

    private static void thirtySteps() {
        Edges.term("the latest 30 can be taken back, the latest first");
        LeavenHouse x = Edges.ruled("tires 0;");
        for (int i = 1; i <= 33; i++) {
            x.day(1);
            Edges.due("STEPS", x.about(2), Math.min(30, i));
        }
        for (int i = 29; i >= 0; i--) {
            Edges.due("undo()", x.undo(), i);
            Edges.due("DAY", x.is(0), i + 3);
        }
        Edges.due("undo()", x.undo(), -1);
        Edges.due("DAY", x.is(0), 3);
        x.day(31);
        Edges.due("STEPS", x.about(2), 30);
        Edges.due("undo()", x.undo(), 29);
        x.join(0, 0);
        Edges.due("STEPS", x.about(2), 30);
        x.join(0, 0);
        Edges.due("STEPS", x.about(2), 30);
        Edges.undoAll(x);
        // The days 3 .. 33, of which the first two fell out.
        Edges.due("DAY", x.is(0), 5);
    }

    private static void whatIsAStep() {
        Edges.term("STEPS: JOINED, POURED, BAKED, a DAY (each), YEARS (see V)");
        LeavenHouse x = new LeavenHouse();
        x.join(0, 0);
        Edges.due("joined", x.about(2), 1);
        x.join(0, 0);
        x.pour(1);
        Edges.due("poured", x.about(2), 3);
        x.bake(2);
        Edges.due("baked", x.about(2), 4);
        x.day(3);
        Edges.due("three days", x.about(2), 7);
        x.years(17, 40);
        Edges.due("years", x.about(2), 8);
        Edges.read(x, "join 0 and 0;day 2;make 2;");
        LeavenHouse y = new LeavenHouse();
        Edges.read(y, "tires 0;join 0 and 0;day 2;make 3;pour 1;bake 2;");
        y.by(0);
        Edges.due("played", y.played(0), -1);
        Edges.due("each a step", y.about(2), 6);
        Edges.term("STEPS: JOINED, POURED, BAKED, a DAY (each), YEARS (see V)");
        LeavenHouse z = new LeavenHouse();
        z.join(0, 1);
        z.join(8, 0);
        z.pour(1);
        z.pour(-1);
        z.bake(1);
        z.bake(8);
        z.day(0);
        z.day(61);
        z.years(-1, 1);
        z.years(0, 41);
        z.played(0);
        Edges.rule(z, "tires 3;pour 5;");
        z.played(0);
        z.order(3);
        z.tell(2);
        z.said(0, 1);
        z.foretold(60, 0);
        z.image();
        Edges.due("none of these", z.about(2), 0);
        Edges.due("undo()", z.undo(), -1);
    }

    private static void stepsTakenBack() {
        Edges.term("(POUNDS, AGES, FUND, DAY, X, BOOK are as ahead of it)");
        for (int last = 0; last < 6; last++) {
            LeavenHouse x = Edges.ruled("tires age+3;price 30;");
            x.join(0, 0);
            x.join(1, 1);
            x.join(1, 2);
            for (int i = 0; i < last; i++) {
                oneOfEach(x, i);
            }
            List<Long> ahead = Edges.house(x);
            oneOfEach(x, last);
            Edges.due("a step", x.about(2), last + 4);
            Edges.due("undo()", x.undo(), last + 3);
            Edges.like("ahead of step " + last, Edges.house(x), ahead);
        }
        LeavenHouse y = Edges.ruled("tires 3;");
        y.day(1);
        y.order(5);
        y.tell(2);
        y.said(1, 1);
        y.by(-1);
        Edges.read(y, "pour 0;");
        y.undo();
        Edges.due("TEXTS stay", y.about(0), 2);
        Edges.due("THE TEXT stays", y.about(1), -1);
        Edges.due("ORDERS stay", y.about(3), 1);
        Edges.due("what was told stays", y.about(4), 2);
        Edges.due("SAID stays", y.about(5), 1);
    }

    private static void oneOfEach(LeavenHouse x, int kind) {
        switch (kind) {
            case 0:
                x.join(3, 3);
                break;
            case 1:
                x.pour(1);
                break;
            case 2:
                x.bake(2);
                break;
            case 4:
                x.years(77, 40);
                break;
            default:
                x.day(1);
                break;
        }
    }

    private static void yearsByDraws() {
        Edges.term("x mod 6: 0, 1 CROCKS x / 6 mod 8, x mod 8 are JOINED; 2 CROCK x / 6 mod 8 is POURED, if x mod 4 is 0; 3 it is BAKED, if x mod 4 is 1 (each if it can be; else nothing); 4, 5 a DAY (if it can pass)");
        boolean[] seen = new boolean[24];
        for (int seed = 0; seed < 1200; seed++) {
            // The first x is odd, so the even kinds are met by the second one.
            int n = 1 + seed % 2;
            LeavenHouse x = Edges.ruled("tires 0;price 5;");
            Edges.fill(x);
            x.pour(5);
            int drawn = seed * 2 + 433;
            LeavenHouse y = Edges.ruled("tires 0;price 5;");
            Edges.fill(y);
            y.pour(5);
            for (int i = 0; i < n; i++) {
                byHand(y, drawn);
                seen[drawn % 6 * 4 + drawn % 4] = true;
                // A day draws for each crock with any, too.
                drawn = Edges.drawn(drawn, drawn % 6 >= 4 ? 1 + Integer.bitCount(y.is(3)) : 1);
            }
            Edges.due("years(" + seed + ", " + n + ")", x.years(seed, n), y.is(0));
            for (int i = 0; i < 8; i++) {
                Edges.due("POUNDS of " + i + " by seed " + seed, x.of(i, 0), y.of(i, 0));
            }
            Edges.due("FUND", x.is(2), y.is(2));
            Edges.due("DAY", x.is(0), y.is(0));
            Edges.due("X", x.is(1), drawn);
            Edges.due("one STEP", x.about(2), 9);
        }
        // x mod 6 and x mod 4 are both even or both odd.
        for (int i = 0; i < 24; i++) {
            Edges.due("all kinds are met, " + i, seen[i], i / 4 % 2 == i % 2);
        }
    }

    private static void byHand(LeavenHouse x, int drawn) {
        int crock = drawn / 6 % 8;
        if (drawn % 6 <= 1) {
            x.join(crock, drawn % 8);
        } else if (drawn % 6 == 2 && drawn % 4 == 0) {
            x.pour(crock);
        } else if (drawn % 6 == 3 && drawn % 4 == 1) {
            x.bake(crock);
        } else if (drawn % 6 >= 4) {
            x.day(1);
        }
    }

    private static void yearsThatDoNothing() {
        Edges.term("YEARS by a SEED: X is SEED (0 .. 9999) * 2 + 433; n times (1 .. 40)");
        LeavenHouse x = new LeavenHouse();
        Edges.due("years(-1, 1)", x.years(-1, 1), -1);
        Edges.due("years(10000, 1)", x.years(10000, 1), -1);
        Edges.due("years(0, 0)", x.years(0, 0), -1);
        Edges.due("years(0, 41)", x.years(0, 41), -1);
        Edges.due("X stays", x.is(1), 433);
        Edges.due("no step", x.about(2), 0);
        // 433 joins crocks 0 and 1, 20431 joins 5 and 7: neither can be.
        Edges.due("years(0, 1)", x.years(0, 1), 0);
        Edges.due("X", x.is(1), Edges.drawn(433));
        Edges.due("a step", x.about(2), 1);
        Edges.due("years(9999, 1)", x.years(9999, 1), 0);
        Edges.due("X", x.is(1), Edges.drawn(20431));
        Edges.due("a step", x.about(2), 2);
        Edges.due("no line", x.book(-1, 0), 0);
        LeavenHouse y = new LeavenHouse();
        y.pour(0);
        // With no dough a day draws nothing: X is drawn 40 times.
        y.years(1234, 40);
        Edges.due("X", y.is(1), Edges.drawn(1234 * 2 + 433, 40));
        Edges.term("x is X, X anew (as in a draw)");
        y.undo();
        y.years(1234, 1);
        Edges.due("X", y.is(1), Edges.drawn(1234 * 2 + 433));
        Edges.term("It is one STEP: DAY");
        Edges.due("a step", y.about(2), 2);
        Edges.due("undo()", y.undo(), 1);
        Edges.due("X", y.is(1), 433);
        Edges.due("DAY", y.is(0), 0);
    }

    private static void yearsAtTheLastDay() {
        Edges.term("4, 5 a DAY (if it can pass)");
        // 435, 437: 3 and 5 by 6: 437 (seed 2) is a day.
        LeavenHouse x = Edges.at(9998);
        Edges.due("years(2, 1)", x.years(2, 1), 9999);
        int age = x.of(0, 1);
        Edges.due("years(2, 1)", x.years(2, 1), 9999);
        Edges.due("AGE", x.of(0, 1), age);
        Edges.due("no draw of a day", x.is(1), Edges.drawn(437));
        Edges.due("a step", x.about(2), 30);
        LeavenHouse y = Edges.at(9999);
        Edges.due("years(2, 40)", y.years(2, 40), 9999);
    }

    private static void imageOfAll() {
        Edges.term("AN IMAGE: all as it is, but the tape and the latest FAULT. BACK: all is so again");
        LeavenHouse x = Edges.ruled("tires number*3;price 20;");
        x.join(0, 0);
        x.join(1, 1);
        x.bake(1);
        x.day(2);
        x.order(7);
        x.order(9);
        x.tell(2);
        x.tell(3);
        x.said(2, 6);
        x.said(3, 9);
        x.image();
        List<Long> kept = Edges.all(x);
        Edges.due("whose()", x.whose(), 1);
        for (int round = 0; round < 2; round++) {
            x.undo();
            Edges.rule(x, "tires 10;");
            x.day(30);
            x.order(-1);
            x.order(40);
            x.tell(-1);
            x.tell(9);
            x.said(-1, 0);
            if (round == 0) {
                x.said(1, 1);
                x.said(0, 10);
                x.said(1, 10);
            }
            x.by(-1);
            x.back();
            Edges.like("all is so again", Edges.all(x), kept);
        }
        // 1 2 3 4 7 9 has both orders.
        Edges.due("made(2)", x.made(2), 3);
        Edges.due("undo()", x.undo(), 4);
        Edges.due("DAY", x.is(0), 1);
        Edges.undoAll(x);
        Edges.due("crocks", x.is(3), 1);
    }

    /** So many lines, each unlike the one ahead of it. */
    private static LeavenHouse written(int lines) {
        LeavenHouse x = new LeavenHouse();
        for (int i = 0; i < lines; i++) {
            switch (i % 4) {
                case 0:
                    x.join(0, 0);
                    break;
                case 1:
                    x.join(0, 1);
                    break;
                default:
                    x.pour(i % 4 - 1);
                    break;
            }
        }
        return x;
    }

    private static void fullBooksComeAgain() {
        for (int lines = 24; lines <= 29; lines++) {
            LeavenHouse x = written(lines);
            List<Long> kept = Edges.house(x);
            Edges.term("(POUNDS, AGES, FUND, DAY, X, BOOK are as ahead of it)");
            x.bake(0);
            x.undo();
            Edges.like("the book is as ahead", Edges.house(x), kept);
            Edges.term("BACK: all is so again");
            x.image();
            x.bake(0);
            x.back();
            Edges.like("the book is as it was", Edges.house(x), kept);
        }
    }

    private static void imageWithoutTapeAndFault() {
        Edges.term("AN IMAGE: all as it is, but the tape and the latest FAULT");
        LeavenHouse x = new LeavenHouse();
        Edges.read(x, "pour 8;");
        Edges.tape(x, "day 5;");
        x.image();
        Edges.read(x, "tires");
        Edges.tape(x, "day 11;");
        x.back();
        Edges.due("FAULT stays", x.fault(0), 1);
        Edges.due("its place stays", x.fault(1), 5);
        Edges.due("the tape stays", x.about(6), 7);
        Edges.due("text()", x.text(), 0);
        x.played(0);
        Edges.due("the tape as it was", x.is(0), 11);
        x.back();
        Edges.due("no FAULT stays", x.fault(0), 0);
        Edges.due("the TEXT is gone", x.about(0), 0);
        Edges.due("the tape is empty", x.about(6), 0);
    }
}
