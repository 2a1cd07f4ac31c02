/** Each promise by itself: ordinary inputs, the edges that the document names, wrong inputs. */
public final class PromisesTest {
    private static int wrong = 0;
    private static int promise = 0;

    private static void due(String call, long got, long want) {
        if (got != want) {
            wrong++;
            System.out.println("promise " + promise + ": " + call + " answered " + got
                    + ", due is " + want);
        }
    }

    private static void due(String call, boolean got, boolean want) {
        due(call, got ? 1 : 0, want ? 1 : 0);
    }

    /** Puts the text on the tape, which is cut ahead of it. */
    private static void tape(LeavenHouse x, String t) {
        x.end(0);
        for (int at = 0; at < t.length(); at += 20) {
            int[] w = new int[5];
            for (int i = 0; i < 20; i++) {
                w[i / 4] = w[i / 4] << 8 | (at + i < t.length() ? t.charAt(at + i) : 0);
            }
            x.feed(w[0], w[1], w[2], w[3], w[4]);
        }
        x.end(t.length());
    }

    private static int read(LeavenHouse x, String t) {
        tape(x, t);
        return x.text();
    }

    private static LeavenHouse ruled(String t) {
        LeavenHouse x = new LeavenHouse();
        due("text " + t, read(x, t), 0);
        due("by", x.by(0), true);
        return x;
    }

    private static void faulty(String t, int kind, int place) {
        LeavenHouse x = new LeavenHouse();
        due("text " + t, read(x, t), -1);
        due("fault(0) of " + t, x.fault(0), kind);
        due("fault(1) of " + t, x.fault(1), place);
    }

    private static void good(String t) {
        LeavenHouse x = new LeavenHouse();
        due("text " + t, read(x, t), 0);
        due("fault(0) of " + t, x.fault(0), 0);
        due("fault(1) of " + t, x.fault(1), -1);
    }

    private static LeavenHouse at(int day) {
        LeavenHouse x = ruled("tires 0;");
        for (int left = day; left > 0; left -= 60) {
            x.day(Math.min(60, left));
        }
        return x;
    }

    public static void main(String[] args) {
        newObject();
        tapes();
        texts();
        faults();
        laws();
        by();
        joins();
        heaviest();
        poursAndBakes();
        days();
        plays();
        makes();
        years();
        undoes();
        looks();
        foretells();
        chainsAndWays();
        ordersAndReach();
        told();
        gameAndSaid();
        crocksAndBook();
        images();
        System.out.println(wrong == 0 ? "promises: all as due" : wrong + " wrong");
        System.exit(wrong == 0 ? 0 : 1);
    }

    private static void newObject() {
        promise = 1;
        LeavenHouse x = new LeavenHouse();
        due("NONE", LeavenHouse.NONE, -1);
        for (int i = 0; i < 8; i++) {
            due("pounds", x.of(i, 0), i == 0 ? 1 : 0);
            due("age", x.of(i, 1), 0);
        }
        due("day", x.is(0), 0);
        due("X", x.is(1), 433);
        due("fund", x.is(2), 0);
        due("book", x.book(-1, 0), 0);
        int[] about = {0, -1, 0, 0, 1, 0, 0};
        for (int i = 0; i < 7; i++) {
            due("about " + i, x.about(i), about[i]);
        }
        x.join(0, 0);
        x.order(3);
        x.tell(2);
        x.said(0, 1);
        read(x, "pour 0;");
        x.by(0);
        due("back", x.back(), 0);
        for (int i = 0; i < 7; i++) {
            due("about " + i, x.about(i), about[i]);
        }
        due("is(3)", x.is(3), 1);
    }

    private static void tapes() {
        promise = 2;
        LeavenHouse x = new LeavenHouse();
        for (int i = 1; i <= 15; i++) {
            due("feed", x.feed(0x20202020, 0x20202020, 0x20202020, 0x20202020, 0x20202020), 20 * i);
        }
        due("feed", x.feed(0, 0, 0, 0, 0), -1);
        due("about(6)", x.about(6), 300);
        promise = 3;
        due("end(301)", x.end(301), -1);
        due("end(-1)", x.end(-1), -1);
        due("end(300)", x.end(300), 300);
        due("end(281)", x.end(281), 281);
        due("feed", x.feed(0, 0, 0, 0, 0), -1);
        due("end(282)", x.end(282), -1);
        due("end(280)", x.end(280), 280);
        due("feed", x.feed(0, 0, 0, 0, 0), 300);
        due("end(0)", x.end(0), 0);
        due("end(1)", x.end(1), -1);
        // "day 1;" and blanks: the highest byte is the first.
        due("feed", x.feed(0x64617920, 0x313b2020, 0x0a0a0a0a, 0x20202020, 0x20202020), 20);
        due("text", x.text(), 0);
        due("played", x.played(0), -1);
        due("is(0)", x.is(0), 1);
    }

    private static void texts() {
        promise = 4;
        LeavenHouse x = new LeavenHouse();
        due("text of nothing", x.text(), 0);
        due("fault", x.fault(0), 0);
        due("text", read(x, "pour 9;"), -1);
        due("the tape is empty", x.about(6), 0);
        due("fault", x.fault(0), 2);
        due("text", read(x, "pour 1;"), 1);
        due("the tape is empty", x.about(6), 0);
        due("text", read(x, "pour 2;"), 2);
        due("text", read(x, "pour 3;"), 3);
        due("texts", x.about(0), 4);
        tape(x, "pour 9;");
        due("text", x.text(), -1);
        due("the tape stays", x.about(6), 7);
        due("no text was read", x.fault(0), 0);
        promise = 5;
        LeavenHouse y = new LeavenHouse();
        due("fault(0)", y.fault(0), -1);
        due("fault(1)", y.fault(1), -1);
        read(y, "pour");
        due("fault(0)", y.fault(0), 1);
        due("fault(1)", y.fault(1), 4);
        due("fault(2)", y.fault(2), -1);
        due("fault(-1)", y.fault(-1), -1);
        read(y, "pour 1;");
        due("fault(0)", y.fault(0), 0);
        due("fault(1)", y.fault(1), -1);
    }

    private static String times(String s, int n) {
        return s.repeat(n);
    }

    private static void faults() {
        promise = 5;
        faulty("x", 1, 0);
        faulty(" \n Tires 1;", 1, 3);
        faulty("tires 1", 1, 7);
        faulty("tires 1  ", 1, 9);
        faulty("tires ;", 1, 6);
        faulty("tires 1 2;", 1, 8);
        faulty("tires 1\t;", 1, 7);
        faulty("tires 1 & 2;", 1, 8);
        faulty("tires \u00e4;", 1, 6);
        faulty("tires 1+;", 1, 8);
        faulty("tires 1**2;", 1, 8);
        faulty("tires (1;", 1, 8);
        faulty("tires 1);", 1, 7);
        faulty("tires if 1 = 2 then 3 end;", 1, 22);
        faulty("tires if 1 < = 2 then 3 else 4 end;", 1, 13);
        faulty("tires if (1 = 2) then 3 else 4 end;", 1, 12);
        faulty("tires if not 1 then 3 else 4 end;", 1, 15);
        faulty("tires not 1 = 2;", 1, 6);
        faulty("tires else;", 1, 6);
        faulty("tires join;", 1, 6);
        faulty("day day;", 1, 4);
        faulty("join 1 1;", 1, 7);
        faulty("join pounds and 1;", 1, 5);
        faulty("pour -1;", 1, 5);
        faulty(";", 1, 0);
        good("");
        good(" \n");
        good("tires 0009999;");
        faulty("tires 10000;", 2, 6);
        faulty("tires 99999999999999999999;", 2, 6);
        faulty("tires 1 99999;", 1, 8);
        faulty("bake 8;", 2, 5);
        faulty("pour 00008;", 2, 5);
        good("pour 00007;");
        good("join 7 and 0;");
        faulty("join 0 and 8;", 2, 11);
        faulty("day 0;", 2, 4);
        good("day 60;day 1;");
        faulty("day 61;", 2, 4);
        good("make 1;make 120;");
        faulty("make 0;", 2, 5);
        faulty("make 121 x", 2, 5);
        good("tires " + times("(", 8) + "1" + times(")", 8) + ";");
        faulty("tires " + times("(", 9) + "1" + times(")", 9) + ";", 3, 14);
        faulty("tires " + times("-", 9) + "1;", 3, 14);
        good("tires 1" + times("-1", 20) + ";");
        good("tires " + times("double 1+", 20) + "1;");
        faulty("price " + times("crock ", 8) + "(1);", 3, 54);
        good("tires " + times("(", 7) + "if 1 = 1 then 2 else 3 end" + times(")", 7) + ";");
        faulty("tires " + times("(", 7) + "if (1) = 1 then 2 else 3 end" + times(")", 7) + ";", 3, 16);
        faulty("tires " + times("(", 7) + "if not 1 = 1 then 2 else 3 end;", 3, 16);
        faulty("tires " + times("(", 7) + "if 1 = 1 then -2 else 3 end;", 3, 27);
        good("tires if " + times("not ", 7) + "1 = 1 then 2 else 3 end;");
        faulty("tires if " + times("not ", 8) + "1 = 1 then 2 else 3 end;", 3, 37);
        faulty("tires " + times("(", 8) + "not", 1, 14);
        good("tires (((1)))+((((((((1))))))));");
        faulty("tires 1;price 1;tires 1;", 4, 16);
        faulty("price 1;price x;", 4, 8);
        faulty("price odd;", 5, 6);
        faulty("tires fund;", 5, 6);
        faulty("price if odd = 1 then 1 else 2 end;", 5, 9);
        faulty("tires 1 fund;", 1, 8);
        good("tires odd+day+number+pounds+age+full;price fund+day+number+pounds+age+full;");
        good(times("pour 0;", 24));
        faulty(times("pour 0;", 25), 6, 168);
        faulty(times("pour 0;", 24) + "x", 1, 168);
        faulty(times("pour 0;", 24) + "tires 1;", 6, 168);
        faulty("tires 1;" + times("pour 0;", 23) + "tires 1;", 4, 169);
        good(times("pour 0;", 24) + "  ");
        good("pour\n0;");
        faulty("pour0 ;x", 1, 7);
    }

    private static void law(String sum, int want) {
        LeavenHouse x = ruled("price " + sum + ";");
        x.join(0, 0);
        x.join(0, 1);
        x.day(1);
        due("price " + sum, x.of(2, 3), want);
    }

    private static void laws() {
        promise = 14;
        law("1+2*3", 7);
        law("10-2-3", 5);
        law("100/7/2", 7);
        law("(0-7)/2+10", 7);
        law("-7/2+10", 7);
        law("7/0+3", 3);
        law("--5", 5);
        law("- -5*2", 10);
        law("double 3+1", 7);
        law("double double 3", 12);
        law("9999*9999-100*9999-99", 1);
        law("0-9999*9999+100*9999+109", 9);
        law("(9999*9999+9999)/1000", 1000);
        law("double(9999*9999)/1000", 1000);
        law("9999*9999*9999/1000", 1000);
        law("9999*9999*(0-9999)/1000+1001", 1);
        law("0-5", 0);
        law("9999+1", 9999);
        law("crock 0+10*crock 1+100*crock 2+1000*crock 3", 321);
        law("crock(0-1)+crock 8+crock 9999", 0);
        law("crock number", 3);
        law("crock crock 0", 2);
        law("day*1000+number*100+pounds*10+age", 1231);
        law("full+fund", 3);
        law("if 1<2 then 5 else 6 end", 5);
        law("if 2<2 then 5 else 6 end", 6);
        law("if 2<=2 then 5 else 6 end", 5);
        law("if 3<=2 then 5 else 6 end", 6);
        law("if 3>2 then 5 else 6 end", 5);
        law("if 2>2 then 5 else 6 end", 6);
        law("if 2>=2 then 5 else 6 end", 5);
        law("if 1>=2 then 5 else 6 end", 6);
        law("if 2=2 then 5 else 6 end", 5);
        law("if 2=1 then 5 else 6 end", 6);
        law("if 2#1 then 5 else 6 end", 5);
        law("if 2#2 then 5 else 6 end", 6);
        law("if not 2#2 then 5 else 6 end", 5);
        law("if 1=1 or 1=2 and 1=2 then 5 else 6 end", 5);
        law("if 1=2 and 1=2 or 1=1 then 5 else 6 end", 5);
        law("if 1=2 or 1=1 and 1=2 then 5 else 6 end", 6);
        law("if not 1=1 or 1=1 then 5 else 6 end", 5);
        law("if 1=1 and not 1=2 then 5 else 6 end+1", 6);
        law("if if 1=1 then 1 else 2 end=1 then if 1=2 then 3 else 4 end else 5 end", 4);
        LeavenHouse x = ruled("tires odd*10+pounds-1;");
        due("tires", x.of(0, 2), 10);
        due("tires", x.of(1, 2), 0);
        x.join(0, 0);
        due("tires", x.of(1, 2), 1);
        due("price without", x.of(1, 3), 2);
        due("tires without", ruled("price 7;").of(0, 2), 2);
    }

    private static void by() {
        promise = 6;
        LeavenHouse x = new LeavenHouse();
        due("by(0)", x.by(0), false);
        due("by(-1)", x.by(-1), true);
        due("by(-2)", x.by(-2), false);
        read(x, "tires 7;");
        due("ahead", x.of(0, 2), 2);
        due("by(0)", x.by(0), true);
        due("about(1)", x.about(1), 0);
        due("then", x.of(0, 2), 7);
        due("by(1)", x.by(1), false);
        due("by(4)", x.by(4), false);
        due("about(1)", x.about(1), 0);
        due("by(-1)", x.by(-1), true);
        due("then", x.of(0, 2), 2);
        due("about(1)", x.about(1), -1);
    }

    private static void joins() {
        promise = 7;
        LeavenHouse x = new LeavenHouse();
        due("join", x.join(0, 1), -1);
        due("join", x.join(1, 0), -1);
        due("join", x.join(-1, 0), -1);
        due("join", x.join(0, 8), -1);
        due("no step", x.about(2), 0);
        for (int i = 1; i < 8; i++) {
            due("join", x.join(i - 1, i - 1), i);
            due("pounds", x.of(i, 0), 1 << i);
        }
        due("no crock", x.join(0, 0), -1);
        due("pour", x.pour(3), true);
        due("lowest", x.join(7, 7), 3);
        due("both stay", x.of(7, 0), 128);
        due("book", x.book(8, 1), 0);
        due("book", x.book(8, 2), 3);
        due("book", x.book(8, 3), 256);
        for (int i = 0; i < 5; i++) {
            x.pour(i % 2 == 0 ? 7 : 3);
            x.join(i % 2 == 0 ? 3 : 7, i % 2 == 0 ? 3 : 7);
        }
        due("8192", x.of(7, 0), 8192);
        promise = 44;
        due("can", x.can(16384), 128);
        due("can", x.can(12288), 8 | 128);
        promise = 7;
        x.pour(3);
        due("above 9999", x.join(7, 7), -1);
        due("64 more", x.join(7, 6), 3);
        x.pour(0);
        due("8256 and 64", x.join(3, 6), 0);
    }

    /** By halves: crock 0 keeps its pound, the answer is the crock with so many. */
    private static int heavy(LeavenHouse x, int pounds) {
        int at = 0;
        for (int bit = 30 - Integer.numberOfLeadingZeros(pounds); bit >= 0; bit--) {
            for (int i = 0; i <= (pounds >> bit & 1); i++) {
                int next = x.join(at, i == 0 ? at : 0);
                if (at != 0) {
                    x.pour(at);
                }
                at = next;
            }
        }
        due("heavy " + pounds, x.of(at, 0), pounds);
        return at;
    }

    private static void heaviest() {
        promise = 7;
        LeavenHouse x = ruled("tires 0;");
        int most = heavy(x, 9998);
        int at = x.join(most, 0);
        due("9999", x.of(at, 0), 9999);
        due("10000", x.join(at, 0), -1);
        due("10000", x.join(0, at), -1);
        due("19998", x.join(at, at), -1);
        promise = 16;
        due("book", x.book(24, 0), 0);
        due("book", x.book(24, 1), 0);
        due("book", x.book(24, 2), at);
        due("book", x.book(24, 3), 9999);
        promise = 44;
        due("can", x.can(19998), 1 << at);
        due("can", x.can(10000), 1 | 1 << at);
        due("can", x.can(9998), -1);
        promise = 9;
        due("bake", x.bake(at), 9999);
    }

    private static void poursAndBakes() {
        promise = 8;
        LeavenHouse x = new LeavenHouse();
        x.day(1);
        due("pour(1)", x.pour(1), false);
        due("pour(-1)", x.pour(-1), false);
        due("pour(8)", x.pour(8), false);
        due("age", x.of(0, 1), 1);
        due("pour(0)", x.pour(0), true);
        due("age", x.of(0, 1), 0);
        due("pounds", x.of(0, 0), 0);
        due("book day", x.book(0, 0), 1);
        due("book what", x.book(0, 1), 1);
        due("book crock", x.book(0, 2), 0);
        due("book pounds", x.book(0, 3), 1);
        promise = 9;
        LeavenHouse y = ruled("price fund+pounds*5;tires 0;");
        y.join(0, 0);
        y.day(1);
        due("bake(8)", y.bake(8), -1);
        due("bake(-1)", y.bake(-1), -1);
        due("bake(2)", y.bake(2), -1);
        due("bake(1)", y.bake(1), 10);
        due("bake(0)", y.bake(0), 15);
        due("fund", y.is(2), 25);
        due("age", y.of(0, 1), 0);
        due("book pounds", y.book(1, 3), 2);
        due("book what", y.book(1, 1), 2);
        due("book day", y.book(1, 0), 1);
        LeavenHouse z = ruled("price 9999;");
        for (int i = 0; i < 102; i++) {
            z.join(0, 0);
            due("brings", z.bake(1), 9999);
        }
        due("no more", z.is(2), 999999);
    }

    private static void days() {
        promise = 10;
        LeavenHouse x = new LeavenHouse();
        due("day(0)", x.day(0), -1);
        due("day(-1)", x.day(-1), -1);
        due("day(61)", x.day(61), -1);
        due("day", x.is(0), 0);
        // 433, 17329, 26413, 388, 17591, 19030 ..: the draws of one crock are 3 9 3 8 1.
        due("four days", x.day(4), 0);
        due("age", x.of(0, 1), 4);
        due("the fifth", x.day(1), 1);
        due("none", x.of(0, 0), 0);
        due("age", x.of(0, 1), 0);
        due("book day", x.book(0, 0), 4);
        due("book what", x.book(0, 1), 3);
        due("book pounds", x.book(0, 3), 0);
        int drawn = x.is(1);
        due("nothing tires", x.day(60), 0);
        due("nothing is drawn", x.is(1), drawn);
        due("day", x.is(0), 65);
        LeavenHouse y = ruled("tires if age=1 then 0 else 10 end;");
        due("one", y.day(1), 0);
        due("two", y.day(1), 1);
        LeavenHouse z = at(9990);
        due("age", z.of(0, 1), 99);
        due("beyond", z.day(10), -1);
        due("day", z.is(0), 9990);
        due("to the last", z.day(9), 0);
        due("day", z.is(0), 9999);
        due("none can pass", z.day(1), -1);
        // Crock 0 tires first, which crock 1 sees then; the day is more only behind both.
        LeavenHouse v = ruled("tires if crock 0=0 and number=1 or day=0 and number=0 then 10 else 0 end;");
        v.join(0, 0);
        due("both", v.day(1), 2);
        due("full", v.is(3), 2);
        due("half", v.of(1, 0), 1);
        due("age stays", v.of(1, 1), 1);
    }

    private static void plays() {
        promise = 11;
        LeavenHouse x = new LeavenHouse();
        due("played(0)", x.played(0), -2);
        due("played(-1)", x.played(-1), -2);
        due("text", read(x, "join 0 and 0;tires 1;join 1 and 0;price 3;bake 2;pour 2;join 0 and 0;"), 0);
        due("played", x.played(0), 5);
        due("what was done stays", x.is(3), 3);
        due("no law of it ruled", x.is(2), 3);
        due("steps", x.about(2), 3);
        due("text", read(x, "tires 1;price 2;"), 1);
        due("laws alone", x.played(1), -1);
        due("text", read(x, "day 60;"), 2);
        due("played", x.played(2), -1);
        due("day", x.is(0), 60);
        due("steps", x.about(2), 30);
        due("played(3)", x.played(3), -2);
        LeavenHouse y = at(9997);
        due("text", read(y, "day 2;day 3;"), 1);
        due("played", y.played(1), 1);
        due("day", y.is(0), 9999);
        due("played", y.played(1), 0);
        LeavenHouse z = at(9998);
        due("text", read(z, "day 2;"), 1);
        due("played", z.played(1), 0);
        due("those that can pass do", z.is(0), 9999);
    }

    private static void makes() {
        promise = 11;
        LeavenHouse x = new LeavenHouse();
        due("text", read(x, "make 7;make 5;make 1;"), 0);
        due("played", x.played(0), -1);
        // The chain of 7 is 1 2 3 4 7, that of 5 is 1 2 3 5.
        int[] pounds = {1, 2, 3, 4, 7, 5, 0, 0};
        for (int i = 0; i < 8; i++) {
            due("pounds " + i, x.of(i, 0), pounds[i]);
        }
        due("each a step", x.about(2), 5);
        due("again", x.played(0), -1);
        due("nothing to do", x.about(2), 5);
        LeavenHouse y = new LeavenHouse();
        due("text", read(y, "tires 1;make 120;"), 0);
        due("too few crocks", y.played(0), 1);
        due("what can be joined is", y.is(3), 255);
        LeavenHouse z = new LeavenHouse();
        z.join(0, 0);
        z.join(1, 1);
        z.pour(0);
        due("text", read(z, "make 1;make 3;"), 0);
        due("no two crocks", z.played(0), 1);
        due("nothing came", z.is(3), 6);
    }

    private static void years() {
        promise = 12;
        LeavenHouse x = new LeavenHouse();
        due("years", x.years(-1, 1), -1);
        due("years", x.years(10000, 1), -1);
        due("years", x.years(0, 0), -1);
        due("years", x.years(0, 41), -1);
        due("no step", x.about(2), 0);
        due("years", x.years(9999, 1), 0);
        due("X", x.is(1), (20431 * 683 + 563) % 30997);
        due("a step", x.about(2), 1);
        // 433: 433 mod 6 is 1, 433 / 6 mod 8 is 0, 433 mod 8 is 1: nothing in crock 1.
        due("years", x.years(0, 1), 0);
        due("nothing joined", x.is(3), 1);
        LeavenHouse y = new LeavenHouse();
        for (int seed = 0; seed < 10; seed++) {
            y.years(seed * 7, 40);
        }
        due("one step each", y.about(2), 10);
        due("undo", y.undo(), 9);
        LeavenHouse z = at(9999);
        due("no day can pass", z.years(3, 40), 9999);
    }

    private static void undoes() {
        promise = 13;
        LeavenHouse x = ruled("tires 0;price 4;");
        due("undo", x.undo(), -1);
        x.join(0, 0);
        x.day(2);
        x.bake(1);
        due("undo", x.undo(), 3);
        due("fund", x.is(2), 0);
        due("age", x.of(1, 1), 2);
        due("book", x.book(-1, 0), 1);
        due("undo", x.undo(), 2);
        due("day", x.is(0), 1);
        due("undo", x.undo(), 1);
        due("X", x.is(1), 433);
        due("undo", x.undo(), 0);
        due("is(3)", x.is(3), 1);
        due("book", x.book(-1, 0), 0);
        due("undo", x.undo(), -1);
        due("the text rules yet", x.about(1), 0);
        x.day(40);
        due("about(2)", x.about(2), 30);
        for (int i = 29; i >= 0; i--) {
            due("undo", x.undo(), i);
        }
        due("undo", x.undo(), -1);
        due("day", x.is(0), 10);
        // The book has 25 lines: those that fell out of it come again.
        LeavenHouse y = new LeavenHouse();
        for (int i = 0; i < 14; i++) {
            y.join(0, 0);
            y.pour(1);
        }
        due("book", y.book(-1, 0), 25);
        due("eldest", y.book(0, 1), 1);
        y.undo();
        due("eldest", y.book(0, 1), 0);
        y.undo();
        due("book", y.book(-1, 0), 25);
        y.undo();
        y.undo();
        due("book", y.book(-1, 0), 24);
    }

    private static void looks() {
        promise = 14;
        LeavenHouse x = new LeavenHouse();
        x.join(0, 0);
        x.join(1, 1);
        x.day(1);
        due("of", x.of(2, 0), 4);
        due("of", x.of(2, 1), 1);
        due("of", x.of(2, 2), 2);
        due("of", x.of(2, 3), 4);
        due("of", x.of(3, 0), 0);
        due("of", x.of(3, 3), 0);
        due("of", x.of(-1, 0), -1);
        due("of", x.of(8, 0), -1);
        due("of", x.of(0, 4), -1);
        due("of", x.of(0, -1), -1);
        promise = 15;
        due("is", x.is(0), 1);
        due("is", x.is(1), 388);
        due("is", x.is(2), 0);
        due("is", x.is(3), 7);
        due("is", x.is(4), 7);
        due("is", x.is(5), -2);
        due("is", x.is(-1), -2);
        promise = 16;
        due("book", x.book(-1, 0), 2);
        due("book", x.book(-2, 0), -2);
        due("book", x.book(2, 0), -2);
        due("book", x.book(0, 4), -2);
        due("book", x.book(0, -1), -2);
        due("book", x.book(1, 0), 0);
        due("book", x.book(1, 1), 0);
        due("book", x.book(1, 2), 2);
        due("book", x.book(1, 3), 4);
        for (int i = 0; i < 30; i++) {
            x.join(0, 0);
            x.bake(3);
        }
        due("book", x.book(-1, 0), 25);
        due("the latest", x.book(24, 1), 2);
        due("the eldest", x.book(0, 1), 2);
        due("none", x.book(25, 0), -2);
    }

    private static LeavenHouse fourCrocks() {
        LeavenHouse x = new LeavenHouse();
        x.join(0, 0);
        x.join(1, 1);
        x.join(2, 2);
        return x;
    }

    private static void foretells() {
        promise = 17;
        LeavenHouse x = fourCrocks();
        int[][] then = new int[61][5];
        for (int n = 1; n <= 60; n++) {
            for (int c = 0; c < 5; c++) {
                then[n][c] = x.foretold(n, c);
            }
        }
        due("nothing is done", x.is(0), 0);
        due("nothing is drawn", x.is(1), 433);
        due("no step", x.about(2), 3);
        LeavenHouse passing = fourCrocks();
        for (int n = 1; n <= 60; n++) {
            passing.day(1);
            for (int c = 0; c < 5; c++) {
                due("foretold " + n + " " + c, then[n][c], passing.of(c, 0));
            }
        }
        due("foretold", x.foretold(0, 0), -1);
        due("foretold", x.foretold(61, 0), -1);
        due("foretold", x.foretold(1, -1), -1);
        due("foretold", x.foretold(1, 8), -1);
        LeavenHouse y = at(9998);
        y.by(-1);
        due("text", read(y, "tires if day=9999 then 10 else 0 end;"), 1);
        y.by(1);
        due("those that can pass", y.foretold(60, 0), 1);
    }

    private static void chainsAndWays() {
        LeavenHouse x = new LeavenHouse();
        promise = 18;
        due("fewest", x.fewest(120), 8);
        due("fewest", x.fewest(0), -1);
        promise = 19;
        int[] lowest = {1, 2, 3, 5, 10, 15};
        for (int i = 0; i < 6; i++) {
            due("chain", x.chain(15, i), lowest[i]);
        }
        due("chain", x.chain(15, 6), -1);
        due("chain", x.chain(15, -1), -1);
        due("chain", x.chain(1, 0), 1);
        due("chain", x.chain(121, 0), -1);
        promise = 20;
        due("chains", x.chains(29), 132);
        due("chains", x.chains(71), 1258);
        due("chains", x.chains(0), -1);
        promise = 21;
        due("halves", x.halves(23), 7);
        due("halves", x.halves(1000001), -1);
        due("halves", x.halves(0), -1);
        promise = 22;
        due("parts", x.parts(23), 7);
        due("parts", x.parts(49), 8);
        due("parts", x.parts(1000000), 6 * 1 + 6 * 3);
        due("parts", x.parts(1000001), -1);
        promise = 23;
        due("hardest", x.hardest(100, 120), 101);
        due("hardest", x.hardest(1, 21), 19);
        due("hardest", x.hardest(1, 22), -1);
        due("hardest", x.hardest(9, 8), -1);
        due("hardest", x.hardest(0, 8), -1);
        due("hardest", x.hardest(110, 121), -1);
        promise = 24;
        due("cost", x.cost(8, 1, 9), 3);
        due("cost", x.cost(8, 9, 1), 12);
        due("cost", x.cost(7, 9, 1), 12);
        due("cost", x.cost(5, 0, 1), -1);
        due("cost", x.cost(5, 1, 10), -1);
        promise = 25;
        due("few", x.few(32, 1), 5);
        due("few", x.few(12, 1), -1);
        due("few", x.few(39, 3), 7);
        due("few", x.few(39, 4), -1);
        due("few", x.few(39, 0), -1);
        promise = 26;
        due("spoons", x.spoons(31), 6);
        due("spoons", x.spoons(29), 7);
        due("spoons", x.spoons(41), -1);
        promise = 27;
        due("both", x.both(7, 9), 6);
        due("both", x.both(0, 7), 4);
        due("both", x.both(10, 0), -1);
        due("both", x.both(-1, 5), -1);
    }

    private static void ordersAndReach() {
        promise = 28;
        LeavenHouse x = new LeavenHouse();
        due("order", x.order(0), -2);
        due("order", x.order(41), -2);
        due("order", x.order(-2), -2);
        due("order", x.order(1), 1);
        due("order", x.order(9), 2);
        due("order", x.order(9), 3);
        due("order", x.order(5), 4);
        due("order", x.order(5), -2);
        due("about(3)", x.about(3), 4);
        promise = 29;
        int[] all = {1, 2, 4, 5, 9};
        due("made", x.made(-1), 4);
        for (int i = 0; i < 5; i++) {
            due("made", x.made(i), all[i]);
        }
        due("made", x.made(5), -2);
        due("made", x.made(-2), -2);
        x.image();
        due("order", x.order(-1), 0);
        due("made", x.made(-1), 0);
        x.order(3);
        due("made", x.made(2), 3);
        x.back();
        due("made", x.made(2), 4);
        promise = 30;
        due("reach", x.reach(-1), -1);
        due("reach", x.reach(4), 8);
        due("reach", x.reach(7), -1);
        promise = 31;
        int[] four = {5, 6, 7, 8, 9, 10, 12, 16};
        for (int i = 0; i < 8; i++) {
            due("reached", x.reached(4, i), four[i]);
        }
        due("reached", x.reached(4, 8), -1);
        due("reached", x.reached(4, -1), -1);
        due("reached", x.reached(7, 0), -1);
        due("reached", x.reached(-1, 0), -1);
        promise = 32;
        int[] first = {1, 2, 3, 5, 7, 11, 19, 29, 47, 71};
        for (int j = 0; j < 10; j++) {
            due("first " + j, x.first(j), first[j]);
        }
        due("first", x.first(-1), -1);
    }

    private static LeavenHouse telling(int... numbers) {
        LeavenHouse x = new LeavenHouse();
        for (int n : numbers) {
            x.tell(n);
        }
        return x;
    }

    private static void told() {
        promise = 33;
        LeavenHouse x = new LeavenHouse();
        due("tell", x.tell(0), -2);
        due("tell", x.tell(10000), -2);
        due("tell", x.tell(-2), -2);
        for (int i = 2; i <= 12; i++) {
            due("tell", x.tell(9999), i);
        }
        due("tell", x.tell(1), -2);
        due("about(4)", x.about(4), 12);
        due("tell", x.tell(-1), 1);
        promise = 34;
        due("wrong", x.wrong(), -1);
        due("wrong", telling(1).wrong(), 1);
        due("wrong", telling(3).wrong(), 1);
        due("wrong", telling(2, 4, 3).wrong(), 3);
        due("wrong", telling(2, 4, 7, 3).wrong(), 3);
        due("wrong", telling(2, 4, 8, 16, 17).wrong(), -1);
        promise = 35;
        due("needless", x.needless(), 0);
        due("needless", telling(2).needless(), 0);
        due("needless", telling(2, 3, 4).needless(), 4);
        due("needless", telling(2, 3, 4, 5, 6).needless(), 4 | 8 | 16);
        due("needless", telling(2, 5).needless(), -1);
        promise = 36;
        due("star", x.star(), true);
        due("star", telling(2, 4, 5).star(), true);
        due("star", telling(2, 3, 4, 6).star(), true);
        due("star", telling(2, 4, 5, 8).star(), false);
        due("star", telling(2, 5).star(), false);
        promise = 37;
        due("steps", x.steps(true), 0);
        due("steps", x.steps(false), 0);
        due("steps", telling(2, 3, 4, 7).steps(true), 2);
        due("steps", telling(2, 3, 4, 7).steps(false), 2);
        due("steps", telling(7).steps(true), -1);
        due("steps", telling(7).steps(false), -1);
    }

    private static void gameAndSaid() {
        promise = 38;
        LeavenHouse x = new LeavenHouse();
        due("game", x.game(2), 1);
        due("game", x.game(7), 0);
        due("game", x.game(1), -1);
        due("game", x.game(13), -1);
        promise = 39;
        due("play", x.play(6), 2);
        due("play", x.play(7), -1);
        due("play", x.play(1), -1);
        promise = 40;
        due("said", x.said(0, 11), -2);
        due("said", x.said(0, -1), -2);
        due("said", x.said(8, 0), -2);
        due("said", x.said(-2, 0), -2);
        for (int i = 1; i <= 8; i++) {
            due("said", x.said(i - 1, i), i);
        }
        due("said", x.said(0, 0), -2);
        due("about(5)", x.about(5), 8);
        due("said", x.said(-1, 99), 0);
        promise = 41;
        due("no text", x.whose(), 0);
        read(x, "tires pounds;");
        read(x, "price 1;");
        read(x, "tires number*2+1;");
        due("nothing said", x.whose(), 7);
        x.said(0, 1);
        due("so", x.whose(), 5);
        x.said(1, 0);
        due("so", x.whose(), 1);
        x.join(0, 0);
        due("as now", x.whose(), 0);
        x.said(-1, 0);
        x.said(1, 2);
        due("without: 2", x.whose(), 3);
    }

    private static void crocksAndBook() {
        promise = 42;
        LeavenHouse x = ruled("tires 0;");
        due("oldest", x.oldest(), 0);
        x.day(2);
        x.join(0, 0);
        x.join(1, 1);
        x.join(1, 1);
        x.pour(0);
        due("oldest", x.oldest(), 1);
        x.day(1);
        x.join(1, 0);
        due("oldest", x.oldest(), 1);
        promise = 43;
        due("fullest", x.fullest(), 2);
        promise = 44;
        due("can", x.can(4), 2);
        due("can", x.can(6), 2 | 4);
        due("can", x.can(8), 4);
        due("can", x.can(5), -1);
        due("can", x.can(0), -1);
        due("can", x.can(19999), -1);
        due("can", x.can(-4), -1);
        promise = 45;
        due("ledger", x.ledger(0), 3);
        due("ledger", x.ledger(1), 1);
        due("ledger", x.ledger(2), 0);
        due("ledger", x.ledger(3), 0);
        due("ledger", x.ledger(4), -2);
        due("ledger", x.ledger(-1), -2);
        for (int i = 1; i < 8; i++) {
            x.pour(i);
        }
        due("ledger", x.ledger(1), 4);
        promise = 42;
        due("oldest", x.oldest(), -1);
        promise = 43;
        due("fullest", x.fullest(), -1);
        promise = 44;
        due("can", x.can(1), -1);
    }

    private static void images() {
        promise = 46;
        LeavenHouse x = new LeavenHouse();
        read(x, "tires 0;");
        x.by(0);
        x.join(0, 0);
        x.day(3);
        x.order(7);
        x.tell(2);
        x.said(1, 0);
        due("image", x.image(), 3);
        promise = 47;
        for (int round = 0; round < 2; round++) {
            read(x, "tires 10;");
            x.by(1);
            x.day(2);
            due("undo", x.undo(), 5);
            for (int i = 0; i < 5; i++) {
                x.undo();
            }
            x.join(0, 0);
            x.bake(0);
            x.order(9);
            x.tell(4);
            x.said(2, 2);
            read(x, "pour 9;");
            tape(x, "abc");
            due("back", x.back(), 3);
            due("the tape stays", x.about(6), 3);
            due("the fault stays", x.fault(1), 5);
            due("texts", x.about(0), 1);
            due("the text", x.about(1), 0);
            due("steps", x.about(2), 4);
            due("orders", x.about(3), 1);
            due("told", x.about(4), 2);
            due("said", x.about(5), 1);
            due("crocks", x.is(3), 3);
            due("fund", x.is(2), 0);
            due("ages", x.of(1, 1), 3);
            due("book", x.book(-1, 0), 1);
            due("by(1)", x.by(1), false);
            due("undo", x.undo(), 3);
            due("day", x.is(0), 2);
            due("back", x.back(), 3);
        }
        promise = 48;
        due("about", x.about(7), -2);
        due("about", x.about(-1), -2);
    }
}
