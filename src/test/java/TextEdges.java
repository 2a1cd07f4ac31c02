import java.util.List;

/** The edges of II: tokens, clauses, sums, faults, what rules and what is played. */
final class TextEdges {
    private TextEdges() {
    }

    static void run() {
        textsOf300();
        fourTexts();
        everyByteAsABlank();
        everyByteAsAToken();
        tokensBesideOneAnother();
        longestSigns();
        numbersTo9999();
        clausesTo24();
        everyTokenMissing();
        sumsOfAllTokens();
        numbersOfClauses();
        openTo8();
        openAroundOneAnother();
        secondLaws();
        namesOfClauses();
        faultsInTheirOrder();
        faultsAtEveryOne();
        leastOfOneToken();
        faultsAtTheEnd();
        sumsFromTheLeft();
        cutsTowards0();
        clipped();
        crocksOfAnyNumber();
        asks();
        lawsToTheirMost();
        textsReadAnew();
        rulesOnlyIfTold();
        playsAsByHand();
        playsTillOneCantBe();
        playsTheLastDays();
        makes();
        makesWithout();
    }

    private static void good(String t) {
        LeavenHouse x = new LeavenHouse();
        Edges.due("text() of " + t, Edges.read(x, t), 0);
        Edges.due("fault(0) of " + t, x.fault(0), 0);
        Edges.due("fault(1) of " + t, x.fault(1), -1);
    }

    private static void faulty(String t, int kind, int place) {
        LeavenHouse x = new LeavenHouse();
        Edges.due("text() of " + t, Edges.read(x, t), -1);
        Edges.due("fault(0) of " + t, x.fault(0), kind);
        Edges.due("fault(1) of " + t, x.fault(1), place);
        Edges.due("no TEXT by " + t, x.about(0), 0);
    }

    private static void textsOf300() {
        Edges.term("TEXTS 0 .. 3: of up to 300 bytes");
        for (int length = 298; length <= 300; length++) {
            LeavenHouse x = new LeavenHouse();
            Edges.due("text()", Edges.read(x, " ".repeat(length - 6) + "day 9;"), 0);
            x.played(0);
            Edges.due("the last bytes are read", x.is(0), 9);
        }
        faulty(" ".repeat(299) + "x", 1, 299);
        faulty(" ".repeat(294) + "day 99", 2, 298);
        faulty(" ".repeat(295) + "day 9", 1, 300);
        good("tires " + "1+".repeat(146) + "1;");
        LeavenHouse y = new LeavenHouse();
        Edges.rule(y, "price " + "1+".repeat(146) + "1;");
        Edges.due("a sum to the last byte", y.of(0, 3), 147);
        LeavenHouse z = new LeavenHouse();
        Edges.rule(z, "price " + "1*".repeat(145) + "7-1;");
        Edges.due("a product to the last byte", z.of(0, 3), 6);
    }

    private static void fourTexts() {
        Edges.term("TEXTS 0 .. 3: of up to 300 bytes");
        LeavenHouse x = new LeavenHouse();
        for (int i = 0; i < 4; i++) {
            Edges.due("by(" + i + ")", x.by(i), false);
            Edges.due("text()", Edges.read(x, "tires " + i + ";"), i);
            Edges.due("by(" + i + ")", x.by(i), true);
            Edges.due("of(0, 2)", x.of(0, 2), i);
        }
        Edges.due("text()", Edges.read(x, "tires 9;"), -1);
        Edges.due("by(4)", x.by(4), false);
        Edges.due("of(0, 2)", x.of(0, 2), 3);
    }

    private static boolean letter(int b) {
        return b >= 'a' && b <= 'z' || b >= 'A' && b <= 'Z';
    }

    private static boolean digit(int b) {
        return b >= '0' && b <= '9';
    }

    private static void everyByteAsABlank() {
        Edges.term("TOKENS, blanks (32, 10) aside");
        for (int b = 0; b < 256; b++) {
            String t = "day" + (char) b + "1;";
            if (b == 32 || b == 10 || b >= '0' && b <= '5') {
                good(t);
            } else if (digit(b)) {
                faulty(t, 2, 3);
            } else {
                faulty(t, 1, letter(b) ? 0 : 3);
            }
        }
        good("\n \n day\n\n1 \n;\n ");
    }

    private static void everyByteAsAToken() {
        Edges.term("1 it can't stand there, or is none");
        for (int b = 0; b < 256; b++) {
            boolean blank = b == 32 || b == 10;
            if (blank) {
                good("day 1;" + (char) b);
                good("price 1" + (char) b + ";");
            } else {
                faulty("day 1;" + (char) b, 1, 6);
            }
            // Behind a number of a sum these can go on; what is behind them is missing then.
            if ("+-*/".indexOf(b) >= 0) {
                faulty("price 1" + (char) b + ";", 1, 8);
            } else if (b == ';') {
                faulty("price 1;;", 1, 8);
            } else if (digit(b)) {
                good("price 1" + (char) b + ";");
            } else if (!blank) {
                faulty("price 1" + (char) b + ";", 1, 7);
            }
        }
    }

    private static void tokensBesideOneAnother() {
        Edges.term("letters a .. z, A .. Z one behind the other (one TOKEN), digits likewise (NUMBERS, 0 .. 9999)");
        good("join0and0;pour1;day1;make1;bake7;");
        good("price double2;");
        good("price if1=1then2else3end;");
        faulty("pourpour 1;", 1, 0);
        faulty("pour 0 1;", 1, 7);
        faulty("price double double;", 1, 19);
        faulty("pricepounds;", 1, 0);
        faulty("price Pounds;", 1, 6);
        faulty("price poundS;", 1, 6);
        faulty("price pound;", 1, 6);
        faulty("price poundss;", 1, 6);
        faulty("price p;", 1, 6);
        faulty("DAY 1;", 1, 0);
        faulty("da y 1;", 1, 0);
        faulty("d", 1, 0);
        faulty("days 1;", 1, 0);
        good("day 1;day\n2\n;");
    }

    private static void longestSigns() {
        Edges.term("<= >= < > = # + - * / ( ) ; (the longest)");
        for (String sign : new String[] {"<", "<=", ">", ">=", "=", "#"}) {
            good("price if 1" + sign + "2 then 3 else 4 end;");
            good("price if 1" + sign + "-2 then 3 else 4 end;");
        }
        for (String sign : new String[] {"< =", "<<", "<>", "=<", "=>", "==", "##", "> =", "<==", ">=>", "=#"}) {
            int place = sign.startsWith("<==") || sign.startsWith(">=>") || sign.contains(" ") ? 12 : 11;
            faulty("price if 1" + sign + "2 then 3 else 4 end;", 1, place);
        }
        faulty("price 1+ +2;", 1, 9);
        faulty("price 1<=2;", 1, 7);
        faulty("price <=", 1, 6);
    }

    private static void numbersTo9999() {
        Edges.term("2 a NUMBER that isn't one of those told (above 9999; CROCKS 0 .. 7, DAYS 1 .. 60, of make 1 .. 120)");
        LeavenHouse x = Edges.ruled("price 9999;");
        Edges.due("of(0, 3)", x.of(0, 3), 9999);
        good("price 0;");
        good("price 00009999;");
        faulty("price 10000;", 2, 6);
        faulty("price 00010000;", 2, 6);
        faulty("price 4294967296;", 2, 6);
        faulty("price 18446744073709551617;", 2, 6);
        faulty("price 1+10000;", 2, 8);
        faulty("price " + "9".repeat(294), 2, 6);
        good("price " + "0".repeat(293) + ";");
        faulty("tires crock 10000;", 2, 12);
        good("tires crock 8;");
        faulty("tires if 10000=1 then 2 else 3 end;", 2, 9);
        faulty("tires if 1=2 then 2 else 10000 end;", 2, 25);
    }

    private static void clausesTo24() {
        Edges.term("{CLAUSE}, 24 at most");
        good("");
        good("\n");
        good(" ");
        LeavenHouse none = new LeavenHouse();
        Edges.read(none, "");
        Edges.due("nothing is played", none.played(0), -1);
        for (int clauses = 23; clauses <= 26; clauses++) {
            String t = "pour 7;".repeat(clauses);
            if (clauses <= 24) {
                good(t);
            } else {
                Edges.term("6 the 25th CLAUSE (at its first TOKEN)");
                faulty(t, 6, 168);
            }
        }
        LeavenHouse x = new LeavenHouse();
        Edges.read(x, "day 1;".repeat(23) + "pour 7;");
        Edges.due("the 24th can't be", x.played(0), 23);
        good("tires 1;price 1;" + "pour 7;".repeat(22));
        faulty("tires 1;price 1;" + "pour 7;".repeat(23), 6, 170);
        faulty("pour 7;".repeat(24) + " \n price 1;", 6, 171);
        faulty("pour 7;".repeat(24) + "join 9", 6, 168);
        for (String first : new String[] {"tires", "price", "join", "pour", "bake", "day", "make"}) {
            faulty("pour 7;".repeat(24) + first, 6, 168);
        }
    }

    /** Each token left out by turns: the next one can't stand there. */
    private static void without(String... tokens) {
        good(String.join(" ", tokens));
        for (int left = 0; left < tokens.length; left++) {
            StringBuilder t = new StringBuilder();
            int place = 0;
            for (int i = 0; i < tokens.length; i++) {
                if (i == left + 1) {
                    place = t.length();
                }
                t.append(i == left ? "" : tokens[i] + " ");
            }
            if (left == tokens.length - 1) {
                place = t.length();
            }
            faulty(t.toString(), 1, place);
        }
    }

    private static void everyTokenMissing() {
        Edges.term("tires SUM ; or price SUM ; (each once) or join NUMBER and NUMBER ; or pour NUMBER ; or bake NUMBER ; or day NUMBER ; or make NUMBER ; (see III)");
        without("join", "0", "and", "7", ";");
        without("pour", "0", ";");
        without("bake", "7", ";");
        without("day", "60", ";");
        without("make", "120", ";");
        without("tires", "9999", ";");
        without("price", "0", ";");
        for (String one : new String[] {"pounds", "-1", "(1)", "double 1", "if 1=1 then 2 else 3 end"}) {
            faulty("pour " + one + ";", 1, 5);
            faulty("join 0 and " + one + ";", 1, 11);
        }
        faulty("join 0 or 1;", 1, 7);
        faulty("tires 1 and 2;", 1, 8);
        Edges.term("ASK: not ASK, or SUM one of < <= > >= = # (unlike) SUM");
        String[] tokens = {"1", "=", "2", "then", "3", "else", "4", "end", ";"};
        for (int left = 0; left < tokens.length; left++) {
            StringBuilder t = new StringBuilder("price if ");
            int place = 0;
            for (int i = 0; i < tokens.length; i++) {
                place = i == left + 1 ? t.length() : place;
                t.append(i == left ? "" : tokens[i] + " ");
            }
            faulty(t.toString(), 1, left == tokens.length - 1 ? t.length() : place);
        }
        faulty("price 1 = 2 then 3 else 4 end;", 1, 8);
        faulty("price if (1 = 2) then 3 else 4 end;", 1, 12);
        faulty("price if 1 = 2 = 3 then 3 else 4 end;", 1, 15);
        faulty("price if 1 = not 2 then 3 else 4 end;", 1, 13);
        faulty("price if not 1 then 3 else 4 end;", 1, 15);
        faulty("price if 1=2 or then 3 else 4 end;", 1, 16);
        faulty("price if 1=2 and and 1=2 then 3 else 4 end;", 1, 17);
        faulty("price not 1 = 2;", 1, 6);
    }

    private static void sumsOfAllTokens() {
        Edges.term("SUM: PRODUCT {+ or - PRODUCT}. PRODUCT: ONE {* or / ONE}. ONE: NUMBER, NAME, ( SUM ), - ONE, double ONE");
        LeavenHouse x = new LeavenHouse();
        String[] tokens = {"7", "pounds", "(", ")", "-", "+", "*", "/", "double", "crock", ";"};
        int calls = 0;
        for (int row = 0; row < 11 * 11 * 11 * 11; row++) {
            if (calls > 490) {
                x = new LeavenHouse();
                calls = 0;
            }
            String[] sum = {tokens[row % 11], tokens[row / 11 % 11], tokens[row / 121 % 11], tokens[row / 1331]};
            String t = "price " + String.join(" ", sum);
            int fault = firstThatCantStand(sum, t);
            Edges.due("text() of " + t, Edges.read(x, t), fault == -1 ? 0 : -1);
            Edges.due("fault(0) of " + t, x.fault(0), fault == -1 ? 0 : 1);
            Edges.due("fault(1) of " + t, x.fault(1), fault);
            x.back();
            calls += 9;
        }
    }

    /** By whether a ONE or what is behind one is due, and how many ( are open. */
    private static int firstThatCantStand(String[] sum, String t) {
        boolean oneIsDue = true;
        int open = 0;
        int place = "price ".length();
        for (int i = 0; i < sum.length; i++) {
            boolean one = "7 pounds".contains(sum[i]);
            boolean opener = "( - double crock".contains(sum[i]);
            boolean joint = "+ - * /".contains(sum[i]);
            boolean last = sum[i].equals(";") && open == 0;
            boolean stands = oneIsDue ? one || opener : joint || last || sum[i].equals(")") && open > 0;
            if (!stands) {
                return place;
            }
            place += sum[i].length() + 1;
            if (last) {
                // Behind a CLAUSE none of these tokens can stand.
                return i == sum.length - 1 ? -1 : place;
            }
            open += sum[i].equals("(") ? 1 : sum[i].equals(")") ? -1 : 0;
            oneIsDue = oneIsDue ? opener : joint;
        }
        return t.length();
    }

    private static void numbersOfClauses() {
        Edges.term("2 a NUMBER that isn't one of those told (above 9999; CROCKS 0 .. 7, DAYS 1 .. 60, of make 1 .. 120)");
        String[] clauses = {"join ", "join 0 and ", "pour ", "bake ", "day ", "make "};
        int[] lows = {0, 0, 0, 0, 1, 1};
        int[] highs = {7, 7, 7, 7, 60, 120};
        for (int c = 0; c < clauses.length; c++) {
            String behind = c == 0 ? " and 0;" : ";";
            int place = clauses[c].length();
            for (int n : new int[] {0, 1, 7, 8, 59, 60, 61, 119, 120, 121, 9999, 10000}) {
                String t = clauses[c] + n + behind;
                if (n >= lows[c] && n <= highs[c]) {
                    good(t);
                } else {
                    faulty(t, 2, place);
                }
            }
            faulty(clauses[c] + "00000000000000000000000" + highs[c] + "0" + behind, 2, place);
        }
    }

    private static void openTo8() {
        Edges.term("3 the 9th of ( not double crock if and - (of one ONE) that are open around one another (at it)");
        String[] open = {"(", "-", "double ", "crock ", "if 1=1 then ", "if 1=1 then 1 else ", "if ", "if not "};
        String[] close = {")", "", "", "", " else 1 end", " end", "=1 then 1 else 1 end", "=1 then 1 else 1 end"};
        int[] levels = {1, 1, 1, 1, 1, 1, 1, 2};
        // Kinds that follow one another in all ways of three, till eight and nine are open.
        for (int kinds = 0; kinds < 512; kinds++) {
            int[] row = {kinds % 8, kinds / 8 % 8, kinds / 64};
            StringBuilder ahead = new StringBuilder("price ");
            StringBuilder behind = new StringBuilder();
            int depth = 0;
            int ninth = 0;
            for (int i = 0; depth < 9; i++) {
                int kind = row[i % 3];
                // Of "if not" the if is the 8th, if seven are open ahead of it.
                ninth = ahead.length() + (levels[kind] == 2 && depth == 7 ? 3 : 0);
                ahead.append(open[kind]);
                behind.insert(0, close[kind]);
                depth += levels[kind];
                if (depth == 8 && fits(ahead, behind)) {
                    good(ahead + "1" + behind + ";");
                }
            }
            if (fits(ahead, behind)) {
                faulty(ahead + "1" + behind + ";", 3, ninth);
            } else if (ahead.length() <= 300) {
                faulty(ahead.toString(), 3, ninth);
            }
        }
    }

    private static boolean fits(StringBuilder ahead, StringBuilder behind) {
        return ahead.length() + behind.length() + 2 <= 300;
    }

    private static void openAroundOneAnother() {
        Edges.term("3 the 9th of ( not double crock if and - (of one ONE) that are open around one another (at it)");
        String eight = "(".repeat(8) + "1" + ")".repeat(8);
        good("price " + eight + "+" + eight + "*" + eight + ";tires " + eight + "-" + eight + ";");
        good("price 1" + "-1".repeat(100) + ";");
        good("price 1" + "+-1".repeat(90) + ";");
        good("price " + "double 1*".repeat(25) + "1;");
        good("price -------" + "(1)+1;");
        faulty("price -------" + "((1))+1;", 3, 14);
        good("price -------" + "(1+1-1)-1;");
        good("price ------- if 1=1 then 2 else 3 end-1;");
        faulty("price -------- if 1=1 then 2 else 3 end;", 3, 15);
        faulty("price ------- if 1=1 then -2 else 3 end;", 3, 26);
        faulty("price ------- if 1=1 then 2 else crock 3 end;", 3, 33);
        faulty("price ------- if 1=double 1 then 2 else 3 end;", 3, 19);
        good("price if " + "not ".repeat(7) + "1=1 and not not 1=1 or not 1=1 then 2 else 3 end;");
        faulty("price if " + "not ".repeat(8) + "1=1 then 2 else 3 end;", 3, 37);
        faulty("price if " + "not ".repeat(7) + "(1)=1 then 2 else 3 end;", 3, 37);
        faulty("price if " + "not ".repeat(7) + "1=(1) then 2 else 3 end;", 3, 39);
        good("price if " + "not ".repeat(6) + "(1)=(1) then (((((((2))))))) else 3 end;");
        faulty("price " + "(".repeat(300 - 6), 3, 14);
        faulty("price " + "-".repeat(300 - 6), 3, 14);
    }

    private static void secondLaws() {
        Edges.term("4 tires, price for the second time (at it)");
        good("tires 1;price 1;");
        good("price 1;tires 1;");
        faulty("tires 1;tires 1;", 4, 8);
        faulty("price 1;price 1;", 4, 8);
        faulty("tires 1;price 1;tires", 4, 16);
        faulty("price 1;tires 1; \n price", 4, 19);
        faulty("tires 1;pour 9;tires 1;", 2, 13);
        good("pour 1;pour 1;join 0 and 0;join 0 and 0;bake 1;bake 1;day 1;day 1;make 1;make 1;");
    }

    private static void namesOfClauses() {
        Edges.term("NAMES: day, number (of the CROCK), pounds (in it), age, full (how many CROCKS have any) in both; odd (1, if its POUNDS are odd, else 0) in tires; fund in price");
        for (String name : new String[] {"day", "number", "pounds", "age", "full"}) {
            good("tires " + name + ";price " + name + ";");
        }
        good("tires odd;");
        good("price fund;");
        LeavenHouse x = Edges.ruled("tires odd;price fund;");
        Edges.fill(x);
        Edges.due("odd of 1", x.of(0, 2), 1);
        Edges.due("odd of 2", x.of(1, 2), 0);
        x.pour(7);
        Edges.due("odd of none", x.of(7, 2), 0);
        x.pour(6);
        x.join(0, 1);
        Edges.due("odd of 3", x.of(6, 2), 1);
        LeavenHouse y = Edges.ruled("tires full;price day*1000+number*100+pounds*10+age;");
        Edges.due("full", y.of(0, 2), 1);
        Edges.fill(y);
        Edges.due("full", y.of(0, 2), 8);
        y.pour(0);
        Edges.due("full", y.of(0, 2), 7);
        Edges.due("names of a crock with none", y.of(0, 3), 0);
        Edges.due("names of crock 1", y.of(1, 3), 120);
        for (int i = 1; i < 8; i++) {
            y.pour(i);
        }
        Edges.due("full", y.of(0, 2), 0);
        Edges.term("5 a NAME that isn't of that CLAUSE (at it)");
        faulty("tires fund;", 5, 6);
        faulty("price odd;", 5, 6);
        faulty("tires 1+crock fund;", 5, 14);
        faulty("tires odd;price 1+odd;", 5, 18);
        faulty("price fund;tires 1+fund;", 5, 19);
        faulty("price if odd=1 then 2 else 3 end;", 5, 9);
        faulty("tires if 1=1 then 2 else fund end;", 5, 25);
    }

    private static void faultsInTheirOrder() {
        Edges.term("FAULTS, the first as TOKENS are come to, at the TOKEN's first byte");
        faulty("pour 8;x", 2, 5);
        faulty("x;pour 8;", 1, 0);
        faulty("tires fund+10000;", 5, 6);
        faulty("tires 10000+fund;", 2, 6);
        faulty("tires fund fund;", 5, 6);
        faulty("tires 1;tires fund;", 4, 8);
        faulty("tires (((((((((fund;", 3, 14);
        faulty("tires ((((((((fund;", 5, 14);
        faulty("day 61 61;", 2, 4);
        faulty("join 8 8;", 2, 5);
        faulty("join 0 8;", 1, 7);
        faulty("make 0;day 0;", 2, 5);
        faulty("pour 7;".repeat(23) + "pour 8;pour 7;", 2, 166);
        faulty("pour 7;".repeat(24) + "pour 8;", 6, 168);
        Edges.promise(5, "Of the latest text that was read: 0 its FAULT (0 without), 1 its place (NONE without). NONE for others, and ahead of any");
        faulty("\n\n  tires\n 1 +\n\n fund ;", 5, 17);
    }

    /** At each place where a ONE can stand, what can't be one by faults 1, 2, 3 and 5. */
    private static void faultsAtEveryOne() {
        Edges.term("FAULTS, the first as TOKENS are come to, at the TOKEN's first byte");
        String sum = "1+1-1*1/1*(1+1)-double 1+crock 1--1+if 1<1 and 1<=1 and 1>1 or 1>=1 and 1=1 or not 1#1"
                + " then 1+1 else 1*1 end";
        for (String law : new String[] {"tires ", "price "}) {
            good(law + sum + ";");
            for (int at = 0; at < sum.length(); at++) {
                if (sum.charAt(at) != '1') {
                    continue;
                }
                String ahead = law + sum.substring(0, at);
                String behind = sum.substring(at + 1) + ";";
                faulty(ahead + "10000" + behind, 2, ahead.length());
                faulty(ahead + (law.equals("tires ") ? "fund" : "odd") + behind, 5, ahead.length());
                faulty(ahead + "then" + behind, 1, ahead.length());
                faulty(ahead + "!" + behind, 1, ahead.length());
                faulty(ahead + "price" + behind, 1, ahead.length());
                good(ahead + "((((((1))))))" + behind);
                faulty(ahead + "(((((((((1)))))))))" + behind, 3, ahead.length() + 8 - around(sum, at));
            }
        }
    }

    /** How many are open around the place in that sum, which has no two around one another but if. */
    private static int around(String sum, int at) {
        String ahead = sum.substring(0, at);
        boolean one = ahead.endsWith("double ") || ahead.endsWith("crock ") || ahead.endsWith("--");
        boolean brackets = ahead.lastIndexOf('(') > ahead.lastIndexOf(')');
        boolean asked = ahead.contains("not ") && !ahead.contains("then");
        return (one || brackets ? 1 : 0) + (ahead.contains("if ") ? 1 : 0) + (asked ? 1 : 0);
    }

    private static void leastOfOneToken() {
        Edges.term("of one the least: 1 it can't stand there, or is none");
        faulty("tires 1 10000;", 1, 8);
        faulty("10000", 1, 0);
        faulty("join 1 10000;", 1, 7);
        faulty("price ((((((((1(", 1, 15);
        faulty("price ((((((((not", 1, 14);
        faulty("price if 1=1 then 2 not", 1, 20);
        faulty("price 1 odd;", 1, 8);
        faulty("tires 1 fund;", 1, 8);
        faulty("tires pounds fund;", 1, 13);
        faulty("odd", 1, 0);
        faulty("fund 1;", 1, 0);
        faulty("pour odd;", 1, 5);
        faulty("tires 1 tires 1;", 1, 8);
        faulty("tires tires 1;", 1, 6);
        faulty("tires 1; 1 tires", 1, 9);
        faulty("pour 7;".repeat(24) + "x", 1, 168);
        faulty("pour 7;".repeat(24) + ";", 1, 168);
        faulty("pour 7;".repeat(24) + "9", 1, 168);
        faulty("pour 7;".repeat(24) + "age", 1, 168);
        faulty("tires 1;" + "pour 7;".repeat(23) + "tires", 4, 169);
        faulty("tires 1;" + "pour 7;".repeat(23) + "price", 6, 169);
        faulty("price 1;" + "pour 7;".repeat(23) + "price", 4, 169);
    }

    private static void faultsAtTheEnd() {
        Edges.term("at the TOKEN's first byte (of the end at the length)");
        String whole = "tires if not 1=double(2) then -3 else crock 4 end;";
        for (int cut = 1; cut < whole.length(); cut++) {
            String t = whole.substring(0, cut);
            int start = cut;
            while (start > 0 && Character.isLetter(t.charAt(start - 1))) {
                start--;
            }
            String word = t.substring(start);
            List<String> known = List.of("", "tires", "if", "not", "double", "then", "else", "crock", "end");
            faulty(t, 1, known.contains(word) ? cut : start);
            faulty(t + "  \n", 1, known.contains(word) ? cut + 3 : start);
        }
        faulty("pour 7;pour", 1, 11);
        faulty("join 0 and", 1, 10);
        for (String sign : new String[] {"<", "<=", ">", ">=", "=", "#"}) {
            faulty("price if 1" + sign, 1, 10 + sign.length());
        }
        wordsAtTheEndOf300();
    }

    private static void wordsAtTheEndOf300() {
        String[] words = {"tires", "price", "join", "pour", "bake", "make", "day", "number", "pounds", "age",
            "full", "odd", "fund", "double", "crock", "if", "then", "else", "end", "and", "or", "not"};
        for (String word : words) {
            for (int cut = 1; cut < word.length(); cut++) {
                faulty(" ".repeat(300 - cut) + word.substring(0, cut), 1, 300 - cut);
            }
            // The rest of the word lies behind the end of the tape.
            LeavenHouse x = new LeavenHouse();
            Edges.tape(x, word);
            x.end(word.length() - 1);
            Edges.due("text()", x.text(), -1);
            Edges.due("fault(1)", x.fault(1), 0);
        }
    }

    private static LeavenHouse priced(String sum) {
        return Edges.ruled("tires 0;price " + sum + ";");
    }

    private static void worth(String sum, int due) {
        Edges.due(sum, priced(sum).of(0, 3), due);
    }

    private static void sumsFromTheLeft() {
        Edges.term("From the left");
        worth("10-3-2", 5);
        worth("10-(3-2)", 9);
        worth("100/5/2", 10);
        worth("100/(5/2)", 50);
        worth("7/2*2", 6);
        worth("2*7/4", 3);
        worth("2+3*4", 14);
        worth("3*4+2", 14);
        worth("20-2*3-1", 13);
        worth("-2+5", 3);
        worth("0-2*-3", 6);
        worth("9--1", 10);
        Edges.term("double ONE (twice as much)");
        worth("double 0", 0);
        worth("7+double-2", 3);
        worth("double 4999", 9998);
        worth("double 3*5", 30);
        worth("double 3+5", 11);
        worth("double(3+5)", 16);
        worth("double double double 1", 8);
        worth("5-double-2", 9);
        Edges.term("if EITHER then SUM else SUM end");
        worth("if 1=1 then 2 else 3 end*5", 10);
        worth("5*if 1=2 then 2 else 3 end+1", 16);
    }

    private static void cutsTowards0() {
        Edges.term("/ cuts towards 0, by 0 it is 0");
        worth("7/2", 3);
        worth("10+-7/2", 7);
        worth("10+7/-2", 7);
        worth("10+-7/-2", 13);
        worth("10+-1/2", 10);
        worth("10+1/-2", 10);
        worth("6/3", 2);
        worth("5/3", 1);
        worth("5/0", 0);
        worth("9+5/0", 9);
        worth("9+-5/0", 9);
        worth("9+0/0", 9);
        worth("5/0*7+1", 1);
        worth("8/(1/2)+4", 4);
        worth("5/1", 5);
        worth("9+5/-1", 4);
    }

    private static void clipped() {
        Edges.term("what is above 1000000 (below the same less) is that, at each step");
        worth("1000*1000-999*1001", 1);
        worth("1000*1000+1-999*1001", 1);
        worth("1000*1000+1-1-999*1001", 0);
        worth("999*1001+1-1000*1000+7", 7);
        worth("999*1001+2-1000*1000+7", 7);
        worth("1001*1000-1000*999", 1000);
        worth("1001*999-1000*999", 999);
        worth("double(500*1000)-999*1001", 1);
        worth("double(500*1000+1)-999*1001", 1);
        worth("double(500*1000-1)-999*1001", 0);
        worth("double(500*1000-1)-999*1001+2", 1);
        worth("-1000*1000+999*1001+5", 4);
        worth("-1000*1000-1+999*1001+5", 4);
        worth("-1000*1000-1+1+999*1001+5", 5);
        worth("-1000*1001+1000*999+5000", 4000);
        worth("double(-500*1000-1)+999*1001+5", 4);
        worth("double(-500*1000+1)+999*1001+5", 6);
        worth("-(1001*1000)+1000*1000+5", 5);
        worth("-(-1001*1000)-999*1001", 1);
        worth("9999*9999*9999*9999/1000", 1000);
        worth("1001*1000/1001", 999);
        worth("1001*1000/1000*-1+1001", 1);
        worth("if 1001*1000=1000*1000 then 1 else 2 end", 1);
        worth("if 1000*1000+1>1000*1000 then 1 else 2 end", 2);
        worth("crock(9999*9999)+3", 3);
    }

    private static void crocksOfAnyNumber() {
        Edges.term("crock ONE (POUNDS in the CROCK of that number; 0 for others)");
        for (int n = -9; n <= 9; n++) {
            LeavenHouse x = priced("3+crock(" + n + ")");
            Edges.fill(x);
            Edges.due("crock " + n, x.of(0, 3), 3 + (n < 0 || n > 7 ? 0 : 1 << n));
        }
        LeavenHouse y = priced("1000*crock number+crock crock crock 0+100*crock 9999+10*crock -1");
        Edges.fill(y);
        Edges.due("crock crock crock 0", y.of(0, 3), 1004);
        Edges.due("of crock 2", y.of(2, 3), 4004);
        y.pour(2);
        Edges.due("of none", y.of(2, 3), 0);
    }

    private static void asks() {
        Edges.term("EITHER: BOTH {or BOTH}. BOTH: ASK {and ASK}");
        String[] asks = {"1=2", "1=1"};
        for (int bits = 0; bits < 8; bits++) {
            boolean a = (bits & 1) > 0;
            boolean b = (bits & 2) > 0;
            boolean c = (bits & 4) > 0;
            String p = asks[bits & 1];
            String q = asks[bits >> 1 & 1];
            String r = asks[bits >> 2];
            asked(p + " or " + q + " and " + r, a || b && c);
            asked(p + " and " + q + " or " + r, a && b || c);
            asked(p + " or " + q + " or " + r, a || b || c);
            asked(p + " and " + q + " and " + r, a && b && c);
            asked("not " + p + " or " + q, !a || b);
            asked("not " + p + " and " + q, !a && b);
            asked("not not " + p + " and not " + q, a && !b);
        }
        Edges.term("one of < <= > >= = # (unlike) SUM");
        for (int a = -1; a <= 1; a++) {
            for (int b = -1; b <= 1; b++) {
                asked(a + "<" + b, a < b);
                asked(a + "<=" + b, a <= b);
                asked(a + ">" + b, a > b);
                asked(a + ">=" + b, a >= b);
                asked(a + "=" + b, a == b);
                asked(a + "#" + b, a != b);
            }
        }
        Edges.term("or and and look at both sides always, of if just the SUM that is chosen is asked");
        asked("1=1 or 1/0=1", true);
        asked("1=2 and 1/0=1", false);
        worth("if 1=1 then 4 else 1/0 end", 4);
        worth("if 1=2 then 1/0 else 4 end", 4);
        asked("1+1=4/2", true);
        asked("-1000*1001=-1000*1000", true);
    }

    private static void asked(String either, boolean due) {
        worth("if " + either + " then 7 else 9 end", due ? 7 : 9);
    }

    private static void lawsToTheirMost() {
        Edges.term("tires (of 10): 0 at least, 10 at most; without: 2. price: 0 at least, 9999 at most; without: POUNDS");
        for (int law : new int[] {-1000000, -2, -1, 0, 1, 9, 10, 11, 12, 9998, 9999, 10000, 1000000}) {
            String sum = law < 0 ? "0-" + factors(-law) : factors(law);
            LeavenHouse x = Edges.ruled("tires " + sum + ";price " + sum + ";");
            Edges.due("tires " + law, x.of(0, 2), Math.max(0, Math.min(10, law)));
            Edges.due("price " + law, x.of(0, 3), Math.max(0, Math.min(9999, law)));
            Edges.due("bake", x.bake(0), Math.max(0, Math.min(9999, law)));
        }
        LeavenHouse y = Edges.ruled("pour 7;");
        y.join(0, 0);
        Edges.due("tires without", y.of(1, 2), 2);
        Edges.due("price without", y.of(1, 3), 2);
        Edges.due("tires of none", y.of(2, 2), 2);
        Edges.due("price of none", y.of(2, 3), 0);
        LeavenHouse z = Edges.ruled("price 9;");
        Edges.due("tires without", z.of(0, 2), 2);
        LeavenHouse v = Edges.ruled("tires 9;");
        Edges.due("price without", v.of(0, 3), 1);
        // A crock may have 9999 and is worth as much.
        LeavenHouse w = new LeavenHouse();
        Edges.due("price without", w.of(Edges.heavy(w, 9999), 3), 9999);
    }

    private static String factors(int n) {
        return n == 1000000 ? "1000*1000" : n == 10000 ? "100*100" : "" + n;
    }

    /** What a text with a fault, or one that is gone, had told is no part of the next. */
    private static void textsReadAnew() {
        Edges.promise(4, "The tape (empty then) is a TEXT: its number. NONE: it has a FAULT");
        LeavenHouse x = new LeavenHouse();
        for (int i = 0; i < 5; i++) {
            Edges.due("a FAULT", Edges.read(x, "tires " + "1+".repeat(60) + "1;price " + "1+".repeat(60) + "1;x"), -1);
            Edges.due("at x", x.fault(1), 256);
        }
        Edges.due("neither law", Edges.read(x, "pour 7;"), 0);
        Edges.due("played(0)", x.played(0), 0);
        x.by(0);
        Edges.due("tires without", x.of(0, 2), 2);
        Edges.due("price without", x.of(0, 3), 1);
        x.back();
        Edges.due("both laws", Edges.read(x, "price " + "1+".repeat(70) + "1;tires " + "1*".repeat(60) + "7;"), 0);
        x.by(0);
        Edges.due("tires", x.of(0, 2), 7);
        Edges.due("price", x.of(0, 3), 71);
        x.back();
        Edges.due("a FAULT", Edges.read(x, "pour 0;".repeat(24) + "x"), -1);
        Edges.due("24 anew", Edges.read(x, "day 1;".repeat(24)), 0);
        Edges.due("played(0)", x.played(0), -1);
        Edges.due("DAY", x.is(0), 24);
    }

    private static void rulesOnlyIfTold() {
        Edges.term("THE TEXT (told; at first none) rules");
        LeavenHouse x = new LeavenHouse();
        Edges.read(x, "tires 9;price 8;");
        Edges.due("about(1)", x.about(1), -1);
        Edges.due("tires", x.of(0, 2), 2);
        Edges.due("price", x.of(0, 3), 1);
        x.played(0);
        Edges.due("played only", x.of(0, 2), 2);
        x.by(0);
        Edges.due("told", x.of(0, 2), 9);
        Edges.read(x, "tires 7;");
        Edges.due("another is read", x.of(0, 2), 9);
        x.by(-1);
        Edges.due("none", x.of(0, 2), 2);
    }

    private static void playsAsByHand() {
        Edges.term("PLAYED by a TEXT: its CLAUSES but laws, in their order, as by hand");
        LeavenHouse x = new LeavenHouse();
        Edges.read(x, "join 0 and 0;tires 10;join 1 and 1;price 77;day 7;pour 2;bake 1;join 0 and 0;");
        LeavenHouse y = new LeavenHouse();
        y.join(0, 0);
        y.join(1, 1);
        // Seven days by tires 2: what tires is the same by hand.
        y.day(7);
        boolean poured = y.pour(2);
        int baked = poured ? y.bake(1) : -1;
        int joined = baked >= 0 ? y.join(0, 0) : -1;
        int due = !poured ? 5 : baked < 0 ? 6 : joined < 0 ? 7 : -1;
        Edges.due("played(0)", x.played(0), due);
        Edges.like("the house", Edges.house(x), Edges.house(y));
        Edges.due("STEPS", x.about(2), y.about(2));
        LeavenHouse z = new LeavenHouse();
        Edges.read(z, "tires 1;price 2;");
        Edges.due("laws alone", z.played(0), -1);
        Edges.due("no step", z.about(2), 0);
    }

    private static void playsTillOneCantBe() {
        Edges.term("one that can't be ends it");
        Edges.term("its number among all CLAUSES (from 0); what was done stays");
        String[] cant = {"join 0 and 7;", "join 7 and 0;", "pour 7;", "bake 7;"};
        for (String clause : cant) {
            LeavenHouse x = new LeavenHouse();
            Edges.read(x, clause + "join 0 and 0;");
            Edges.due("the first", x.played(0), 0);
            Edges.due("nothing is done", x.is(3), 1);
            Edges.read(x, "tires 1;join 0 and 0;price 1;" + clause + "join 0 and 0;");
            Edges.due("behind laws", x.played(1), 3);
            Edges.due("what was done stays", x.is(3), 3);
            Edges.due("STEPS", x.about(2), 1);
            Edges.read(x, "join 0 and 0;" + clause);
            Edges.due("the last", x.played(2), 1);
            Edges.due("what was done stays", x.is(3), 7);
        }
        LeavenHouse y = new LeavenHouse();
        Edges.read(y, "join 0 and 0;".repeat(8));
        Edges.due("no CROCK without any", y.played(0), 7);
        Edges.due("all have any", y.is(3), 255);
        LeavenHouse z = new LeavenHouse();
        int most = Edges.heavy(z, 5000);
        Edges.read(z, "join " + most + " and " + most + ";");
        Edges.due("10000", z.played(0), 0);
    }

    private static void playsTheLastDays() {
        Edges.term("(of so many DAYS those that can pass do");
        int[] days = {9938, 9939, 9940, 9998, 9999};
        for (int day : days) {
            LeavenHouse x = Edges.at(day);
            Edges.read(x, "price 1;day 60;join 0 and 0;");
            Edges.due("played at " + day, x.played(1), day + 60 <= 9999 ? -1 : 1);
            Edges.due("DAY", x.is(0), Math.min(9999, day + 60));
            Edges.due("the next CLAUSE", x.is(3), day + 60 <= 9999 ? 3 : 1);
        }
        LeavenHouse y = Edges.at(9998);
        Edges.read(y, "day 1;day 1;day 1;");
        Edges.due("played", y.played(1), 1);
        Edges.due("DAY", y.is(0), 9999);
        Edges.due("undo()", y.undo(), 29);
        Edges.due("DAY", y.is(0), 9998);
    }

    private static LeavenHouse making(int n) {
        LeavenHouse x = new LeavenHouse();
        Edges.read(x, "make " + n + ";");
        return x;
    }

    private static void makes() {
        Edges.term("make: of THE CHAIN of that number, number by number behind 1 (1 itself isn't asked for), what isn't in any CROCK is JOINED (each a STEP)");
        for (int n = 1; n <= 120; n++) {
            LeavenHouse x = making(n);
            List<Integer> chain = Brute.lowestWith(List.of(n));
            boolean fits = chain.size() <= 8;
            Edges.due("make " + n, x.played(0), fits ? -1 : 0);
            for (int i = 0; i < 8; i++) {
                Edges.due("POUNDS of " + i, x.of(i, 0), i < chain.size() ? chain.get(i) : 0);
            }
            Edges.due("STEPS", x.about(2), Math.min(chain.size(), 8) - 1);
            Edges.due("again", x.played(0), fits ? -1 : 0);
            Edges.due("STEPS", x.about(2), Math.min(chain.size(), 8) - 1);
        }
        LeavenHouse y = making(8);
        y.join(0, 0);
        y.join(1, 1);
        y.join(2, 1);
        y.pour(2);
        // 1, 2, none, 6: 4 and 8 are joined.
        Edges.due("played", y.played(0), -1);
        Edges.due("4", y.of(2, 0), 4);
        Edges.due("8", y.of(4, 0), 8);
        Edges.due("STEPS", y.about(2), 6);
        makesOfOneTwice();
    }

    private static void makesOfOneTwice() {
        Edges.term("of the two of the lowest CROCKS that can (the lowest one, then the lowest other, maybe itself)");
        LeavenHouse x = making(2);
        Edges.due("1 twice", x.played(0), -1);
        Edges.due("2", x.of(1, 0), 2);
        LeavenHouse y = making(3);
        y.join(0, 0);
        y.pour(0);
        y.join(1, 1);
        // 4 and 2 don't make 3.
        Edges.due("no two", y.played(0), 0);
        y.back();
        Edges.read(y, "make 3;");
        y.join(0, 0);
        Edges.due("1 and 2", y.played(0), -1);
        Edges.due("3", y.of(2, 0), 3);
    }

    private static void makesWithout() {
        Edges.term("(1 itself isn't asked for)");
        LeavenHouse x = making(1);
        x.pour(0);
        Edges.due("make 1 of nothing", x.played(0), -1);
        LeavenHouse y = making(4);
        y.join(0, 0);
        y.pour(0);
        Edges.due("make 4 of 2", y.played(0), -1);
        Edges.due("4 in the lowest", y.of(0, 0), 4);
        LeavenHouse z = making(2);
        z.pour(0);
        Edges.due("make 2 of nothing", z.played(0), 0);
        Edges.term("of make what can be joined is)");
        LeavenHouse v = making(3);
        v.join(0, 0);
        v.pour(0);
        Edges.due("make 3 of 2", v.played(0), 0);
        Edges.due("nothing is joined", v.is(3), 2);
        LeavenHouse w = making(12);
        List<Integer> chain = Brute.lowestWith(List.of(12));
        for (int i = 0; i < 6; i++) {
            w.join(0, 0);
        }
        Edges.due("chain of 12", chain.equals(List.of(1, 2, 3, 6, 12)), true);
        Edges.due("make 12 by one crock", w.played(0), 0);
        Edges.due("3 is joined", w.of(7, 0), 3);
        Edges.due("STEPS", w.about(2), 7);
    }
}
