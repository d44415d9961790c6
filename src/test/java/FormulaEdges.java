import java.util.List;
import java.util.stream.IntStream;

/** The edges of promises 10 to 17 and of '2 FORMULAS' under 'Terms', sentence by sentence. */
final class FormulaEdges {
    private static final int NONE = DistanceSolver.NONE;
    private static final long NO = DistanceSolver.NO;
    private static final int LEAST = Integer.MIN_VALUE;
    private static final int GREATEST = Integer.MAX_VALUE;
    private static final String NINE = "a>0|b>0|c>0|d>0|e>0|f>0|g>0|h>0|i>0";
    private static final String TEN = NINE + "|j>0";

    private FormulaEdges() {
    }

    static void all() {
        tapeHasRoomFor400();
        tokensAreLong();
        letters();
        numbersAreAllFigures();
        signs();
        grammar();
        units();
        atomsOfTheLesser();
        atomsOfTheOther();
        relations();
        ofXAndX();
        atomsAreNumbered();
        firstFromTheLeft();
        bytesThatBeginNoToken();
        numbersTooLong();
        tokensThatCantStand();
        eleventhAtom();
        twentyFirstOpen();
        token101();
        ofOneTokenByCode();
        formulaStays();
        rowsAsNumbers();
        waysAreRows();

        feedAnswers();
        feedThrows();
        feedHasRoom();
        readAnswers();
        faultAnswers();
        atomAnswers();
        atomThrows();
        waysAnswers();
        wayAnswers();
        valueInAnswers();
        mustAnswers();
    }

    // ---- 2 FORMULAS

    private static DistanceSolver dueAtoms(String text, int... due) {
        DistanceSolver s = new DistanceSolver();
        Due.is("read " + text, Due.read(s, text), due.length / 3);
        Due.is("fault of " + text, s.fault(), 0);
        for (int i = 0; i < due.length; i++) {
            Due.is("atom(" + i / 3 + ", " + i % 3 + ") of " + text, s.atom(i / 3, i % 3), due[i]);
        }
        return s;
    }

    private static void dueFault(String text, int code, int place) {
        DistanceSolver s = new DistanceSolver();
        Due.is("read " + text, Due.read(s, text), -1 - place);
        Due.is("fault of " + text, s.fault(), code);
        Due.is("no formula by " + text, s.told(6), 0);
        Due.is("an empty tape behind " + text, s.told(4), 0);
    }

    private static void dueWays(String text, int... rows) {
        DistanceSolver s = new DistanceSolver();
        Due.read(s, text);
        Due.is("ways of " + text, s.ways(), rows.length);
        int from = 0;
        for (int row : rows) {
            Due.is("way of " + text + " from " + from, s.way(from), row);
            from = row + 1;
        }
        Due.is("way of " + text + " from " + from, s.way(from), NONE);
    }

    private static void tapeHasRoomFor400() {
        Doc.says("Terms", "THE TAPE has at most 400 bytes.");
        DistanceSolver s = new DistanceSolver();
        Due.feed(s, "a<1" + " ".repeat(396));
        Due.is("399 bytes", s.told(4), 399);
        Due.unsupported("401 bytes", () -> s.feed(0x2020, 2));
        Due.is("400 bytes", s.feed(0x20, 1), 400);
        Due.unsupported("401 bytes", () -> s.feed(0x20, 1));
        Due.is("all 400 are read", s.read(), 1);
        Due.is("there is room again", s.feed(0, 8), 8);
        dueAtoms(" ".repeat(397) + "a<1", 0, 1, -1);
        dueFault(" ".repeat(399) + "$", 1, 399);
        dueFault(" ".repeat(397) + "a<&", 2, 399);
        dueFault(" ".repeat(398) + "a<", 2, 400);
        dueFault(" ".repeat(400), 2, 400);
    }

    private static void tokensAreLong() {
        Doc.says("Terms", "TOKENS, as long as may be, with blanks (32) between where needed:");
        dueAtoms("a-b<=1", 1, 2, 1);
        dueFault("a-b< =1", 2, 5);
        dueAtoms("a-b>=1", 1, 2, 0);
        dueFault("a-b> =1", 2, 5);
        dueAtoms("a-b<1->c<1", 1, 2, 0, 0, 3, -1);
        dueFault("a-b<1- >c<1", 2, 5);
        dueFault("a->b<1", 2, 1);
        dueAtoms("a- b<-1", 1, 2, -2);
        dueFault("a<->1", 2, 2);
        dueFault("a-b<==1", 2, 5);
        dueFault("a-b=<1", 2, 4);
        dueFault("a-b<1 2", 2, 6);
        dueAtoms("   a   -   b   <=   -   1   ", 1, 2, -1);
        for (int blank : new int[] {0, 9, 10, 13, 31, 33, 127, 160}) {
            dueFault("a" + (char) blank + "<1", 1, 1);
        }
    }

    private static void letters() {
        Doc.says("Terms", "a VARIABLE, a letter a .. o (1 .. 15) or z (ZERO);");
        for (char letter = 'a'; letter <= 'o'; letter++) {
            dueAtoms("z-" + letter + "<=1", 0, letter - 'a' + 1, 1);
        }
        dueAtoms("z<=1");
        for (char letter : new char[] {'`', 'p', 'y', '{', 'A', 'O', 'Z', '@'}) {
            dueFault(letter + "<=1", 1, 0);
            dueFault("z-" + letter + "<=1", 1, 2);
        }
        dueFault("aa<=1", 2, 1);
    }

    private static void numbersAreAllFigures() {
        Doc.says("Terms", "a NUMBER, all figures that follow one another;");
        dueAtoms("a-b<=0", 1, 2, 0);
        dueAtoms("a-b<=9", 1, 2, 9);
        dueAtoms("a-b<=0987654", 1, 2, 987654);
        dueAtoms("a-b<=123210", 1, 2, 123210);
        dueAtoms("a-b<=0000000", 1, 2, 0);
        dueAtoms("a-b<=0000012", 1, 2, 12);
        dueFault("a-b<=1 0", 2, 7);
        dueFault("a-b<=1/", 1, 6);
        dueFault("a-b<=1:", 1, 6);
    }

    private static void signs() {
        Doc.says("Terms", "SIGNS - <= < >= > = # & | ~ -> ( )");
        String all = "a-b<=1&(c<2|d>=3)->~(e>4&f=5->g#6)";
        DistanceSolver s = new DistanceSolver();
        Due.is("all of them", Due.read(s, all), 8);
        Due.is("all of them, with blanks", Due.read(s, "a - b <= 1 & ( c < 2 | d >= 3 ) -> ~ ( e > 4 & f = 5 -> g # 6 )"), 8);
        for (String sign : new String[] {"!", "\"", "'", "*", "+", ",", ".", "/", ":", ";", "?", "[", "]", "^", "_", "{", "}"}) {
            dueFault("a" + sign + "b<=1", 1, 1);
            dueFault("a<=1" + sign + "b<=1", 1, 4);
        }
    }

    private static void grammar() {
        Doc.says("Terms", "formula: either, or either -> formula; either: both | both ..; both: unit & unit ..;");
        dueWays("a<0->b<0->c<0", rows(3, "~0|~1|2"));
        dueWays("(a<0->b<0)->c<0", rows(3, "0&~1|2"));
        dueWays("a<0|b<0&c<0", rows(3, "0|1&2"));
        dueWays("a<0&b<0|c<0", rows(3, "0&1|2"));
        dueWays("a<0|b<0->c<0|d<0", rows(4, "~0&~1|2|3"));
        dueWays("a<0&b<0->c<0&d<0", rows(4, "~0|~1|2&3"));
        dueWays("a<0|b<0|c<0|d<0", rows(4, "0|1|2|3"));
        dueWays("a<0&b<0&c<0&d<0", rows(4, "0&1&2&3"));
        dueFault("", 2, 0);
        dueFault("a<0->", 2, 5);
        dueFault("->a<0", 2, 0);
        dueFault("a<0|", 2, 4);
        dueFault("|a<0", 2, 0);
        dueFault("a<0&", 2, 4);
        dueFault("&a<0", 2, 0);
    }

    /** The rows by which an "or" of "ands" of truths is true; a<0 is not d(0, 1, 0), so its truth is the ATOM's contrary. */
    private static int[] rows(int atoms, String ors) {
        return IntStream.range(0, 1 << atoms).filter(row -> {
            for (String ands : ors.split("\\|")) {
                boolean all = true;
                for (String one : ands.split("&")) {
                    int k = one.charAt(one.length() - 1) - '0';
                    boolean isTrue = (row >> (atoms - 1 - k) & 1) == 0;
                    all &= isTrue != one.startsWith("~");
                }
                if (all) {
                    return true;
                }
            }
            return false;
        }).toArray();
    }

    private static void units() {
        Doc.says("Terms", "unit: ~ unit, ( formula ), or VARIABLE - VARIABLE or VARIABLE (less ZERO) and one of"
                + " <= < >= > = # and INT (NUMBER, or - NUMBER).");
        dueWays("~a<0&b<0", rows(2, "~0&1"));
        dueWays("~(a<0&b<0)", rows(2, "~0|~1"));
        dueWays("~~a<0", rows(1, "0"));
        dueWays("((a<0))", rows(1, "0"));
        dueAtoms("o<=0", 0, 15, -1);
        dueAtoms("o-z<=0", 0, 15, -1);
        dueAtoms("z-o<=-0", 0, 15, 0);
        dueAtoms("n-o<=-1000000", 14, 15, -1000000);
        dueAtoms("n-o<=1000000", 14, 15, 1000000);
        dueFault("()", 2, 1);
        dueFault("(a<0", 2, 4);
        dueFault("a<0)", 2, 3);
        dueFault("~", 2, 1);
        dueFault("a<0~", 2, 3);
        dueFault("a-b-c<0", 2, 3);
        dueFault("a-0<0", 2, 2);
        dueFault("0<a", 2, 0);
        dueFault("a<--1", 2, 3);
        dueFault("a<b", 2, 2);
        dueFault("a<(1)", 2, 2);
    }

    private static void atomsOfTheLesser() {
        Doc.says("Terms", "ATOMS are d(x, y, c): x - y is c at most, x the lesser VARIABLE of both.");
        dueAtoms("a-o<=5", 1, 15, 5);
        dueAtoms("o-a<=5", 1, 15, -6);
        dueAtoms("z-a<=5", 0, 1, 5);
        dueAtoms("a<=5", 0, 1, -6);
        dueAtoms("n-o<=5", 14, 15, 5);
        dueAtoms("o-n<=5", 14, 15, -6);
    }

    private static void atomsOfTheOther() {
        Doc.says("Terms", "x - y <= c is that one; y - x <= c is not d(x, y, -c - 1);");
        dueAtoms("a-b<=1000000", 1, 2, 1000000);
        dueAtoms("b-a<=1000000", 1, 2, -1000001);
        dueAtoms("b-a<=-1000000", 1, 2, 999999);
        dueAtoms("b-a<=0", 1, 2, -1);
        dueAtoms("b-a<=-1", 1, 2, 0);
        dueWays("a-b<=3", 1);
        dueWays("b-a<=3", 0);
    }

    private static void relations() {
        Doc.says("Terms", "< n is <= n - 1; >= n is not < n; > n is not <= n; = n is <= n and not < n, # n not that;");
        dueAtoms("a-b<-1000000", 1, 2, -1000001);
        dueAtoms("a-b>=-1000000", 1, 2, -1000001);
        dueAtoms("b-a<-1000000", 1, 2, 1000000);
        dueAtoms("b-a>1000000", 1, 2, -1000001);
        dueAtoms("a-b=-1000000", 1, 2, -1000000, 1, 2, -1000001);
        dueAtoms("a-b#-1000000", 1, 2, -1000000, 1, 2, -1000001);
        dueWays("a-b<3", 1);
        dueWays("a-b>=3", 0);
        dueWays("a-b>3", 0);
        dueWays("a-b=3", 2);
        dueWays("a-b#3", 0, 3);
        String[] signs = {"<=", "<", ">=", ">", "=", "#"};
        for (int n = -1; n <= 1; n++) {
            for (int difference = n - 1; difference <= n + 1; difference++) {
                boolean[] due = {difference <= n, difference < n, difference >= n, difference > n, difference == n, difference != n};
                for (int i = 0; i < signs.length; i++) {
                    dueTruth("e-h" + signs[i] + n, 5, 8, difference, due[i]);
                    dueTruth("h-e" + signs[i] + n, 8, 5, difference, due[i]);
                    dueTruth("e" + signs[i] + n, 5, 0, difference, due[i]);
                }
            }
        }
    }

    private static void dueTruth(String text, int x, int y, int difference, boolean due) {
        DistanceSolver s = new DistanceSolver();
        s.add(x, y, difference);
        s.add(y, x, -difference);
        Due.read(s, text);
        Due.is("ways of " + text + " at " + difference, s.ways(), due ? 1 : 0);
    }

    private static void ofXAndX() {
        Doc.says("Terms", "of x and x each is true or false as it is.");
        String[] trues = {"a-a<=0", "a-a<1", "o-o>=0", "z>-1", "z=0", "z-z#1", "b-b#-1", "z<=1000000", "z>=-1000000"};
        String[] falses = {"a-a<=-1", "a-a<0", "o-o>=1", "z>0", "z=1", "z-z#0", "b-b=-1", "z<-1000000", "z>1000000"};
        for (String text : trues) {
            dueAtoms(text);
            dueWays(text, 0);
            dueWays("~" + text);
        }
        for (String text : falses) {
            dueAtoms(text);
            dueWays(text);
            dueWays("~" + text, 0);
        }
    }

    private static void atomsAreNumbered() {
        Doc.says("Terms", "ATOMS are numbered as they come (of = and # that of <= n before that of < n); alike ones are one.");
        dueAtoms("c-d<=1&a-b<=1", 3, 4, 1, 1, 2, 1);
        dueAtoms("a-b=4", 1, 2, 4, 1, 2, 3);
        dueAtoms("a-b#4", 1, 2, 4, 1, 2, 3);
        dueAtoms("b-a=4", 1, 2, -5, 1, 2, -4);
        dueAtoms("b-a#4", 1, 2, -5, 1, 2, -4);
        dueAtoms("a-b<=1|a-b>1|a-b<2|a-b>=2|b-a<=-2|b-a>-2|b-a<-1|b-a>=-1", 1, 2, 1);
        dueAtoms("a-b<=1|a-b<=2|a-c<=1|b-c<=1", 1, 2, 1, 1, 2, 2, 1, 3, 1, 2, 3, 1);
        dueAtoms("a-b<3|a-b=3", 1, 2, 2, 1, 2, 3);
        dueAtoms("a-b=3|a-b=4", 1, 2, 3, 1, 2, 2, 1, 2, 4);
    }

    private static void firstFromTheLeft() {
        Doc.says("Terms", "FAULTS, the first from the left:");
        dueFault(")$", 2, 0);
        dueFault("$)", 1, 0);
        dueFault("a<1000001)", 1, 2);
        dueFault("a<)1000001", 2, 2);
        dueFault("~".repeat(21) + "$", 4, 20);
        dueFault("~".repeat(19) + "$" + "~~~", 1, 19);
        dueFault(TEN + "&k>0)", 3, TEN.length() + 3);
        dueFault(TEN + ")&k>0", 2, TEN.length());
        dueFault("a>0&".repeat(25) + "a$", 5, 100);
        dueFault("a>0&".repeat(24) + "a$" + "~".repeat(30), 1, 97);
    }

    private static boolean begins(int b) {
        return b >= 'a' && b <= 'o' || b >= '0' && b <= '9' || "z-<>=#&|~()".indexOf(b) >= 0;
    }

    private static void bytesThatBeginNoToken() {
        Doc.says("Terms", "1 a byte that begins no token,");
        for (int b = 0; b < 256; b++) {
            String c = "" + (char) b;
            if (begins(b)) {
                boolean unit = b >= 'a' && b <= 'z' || b == '~' || b == '(';
                dueFault(c, 2, unit ? 1 : 0);
            } else {
                dueFault(c, b == ' ' ? 2 : 1, b == ' ' ? 1 : 0);
                dueFault("a" + c, b == ' ' ? 2 : 1, b == ' ' ? 2 : 1);
                dueFault("a<1&" + c, b == ' ' ? 2 : 1, b == ' ' ? 5 : 4);
            }
        }
    }

    private static void numbersTooLong() {
        Doc.says("Terms", "a NUMBER of more than 7 figures, or above 1000000 (at its first byte);");
        dueAtoms("a-b<=1000000", 1, 2, 1000000);
        dueAtoms("a-b<=-1000000", 1, 2, -1000000);
        dueAtoms("a-b<=0000001", 1, 2, 1);
        dueFault("a-b<=1000001", 1, 5);
        dueFault("a-b<=-1000001", 1, 6);
        dueFault("a-b<= - 1000001", 1, 8);
        dueFault("a-b<=9999999", 1, 5);
        dueFault("a-b<=00000000", 1, 5);
        dueFault("a-b<=00000001", 1, 5);
        dueFault("a-b<=10000000", 1, 5);
        dueFault("a-b<=4294967296", 1, 5);
        dueFault("a-b<=18446744073709551617", 1, 5);
        dueFault("a-b<=" + "0".repeat(395), 1, 5);
        dueFault("1000001", 1, 0);
        dueFault("1000000", 2, 0);
    }

    /** Before each of these texts the tokens in its row can stand, and no other one can. */
    private static final String[][] STANDS = {
        {"", "b", "~", "("},
        {"(", "b", "~", "("},
        {"~", "b", "~", "("},
        {"a<1&", "b", "~", "("},
        {"a<1|", "b", "~", "("},
        {"a<1->", "b", "~", "("},
        {"a", "-", "<=", "<", ">=", ">", "=", "#"},
        {"a-", "b"},
        {"a-b", "<=", "<", ">=", ">", "=", "#"},
        {"a<", "-", "7"},
        {"a<-", "7"},
        {"a<1", "&", "|", "->"},
        {"(a<1)", "&", "|", "->"},
        {"(a<1", "&", "|", "->", ")"},
        {"(a<1)&b<2|(c<3", "&", "|", "->", ")"},
    };

    private static void tokensThatCantStand() {
        Doc.says("Terms", "2 a token that can't stand there, or the end (the length);");
        String[] tokens = {"b", "z", "7", "-", "<=", "<", ">=", ">", "=", "#", "&", "|", "~", "->", "(", ")"};
        for (String[] row : STANDS) {
            String before = row[0] + " ";
            for (String token : tokens) {
                boolean stands = List.of(row).subList(1, row.length).contains(token.equals("z") ? "b" : token);
                boolean whole = stands && (token.equals("7") || token.equals(")"));
                if (whole) {
                    Due.is("read " + before + token, Due.read(new DistanceSolver(), before + token) >= 0 ? 1 : 0, 1);
                } else {
                    dueFault(before + token, 2, before.length() + (stands ? token.length() : 0));
                    dueFault(before + token + "  ", 2, before.length() + (stands ? token.length() + 2 : 0));
                }
            }
            if (!row[0].equals("a<1") && !row[0].equals("(a<1)")) {
                dueFault(row[0], 2, row[0].length());
                dueFault(before, 2, before.length());
            }
        }
    }

    private static void eleventhAtom() {
        Doc.says("Terms", "3 an 11th ATOM (at the INT's NUMBER);");
        DistanceSolver s = new DistanceSolver();
        Due.is("10", Due.read(s, TEN), 10);
        Due.is("10, and all of them again", Due.read(s, TEN + "&a<1&j<=0&z=5&b-b#1"), 10);
        Due.is("9, and two that are one", Due.read(s, NINE + "|j>0&j<=0"), 10);
        Due.is("9, and one of two that is there", Due.read(s, NINE + "|a=0"), 10);
        dueFault(TEN + "|k>0", 3, TEN.length() + 3);
        dueFault(TEN + "|k > - 00", 3, TEN.length() + 7);
        dueFault(TEN + "|a>1", 3, TEN.length() + 3);
        dueFault(NINE + "|j=0", 3, NINE.length() + 3);
        dueFault(NINE + "|j#-0", 3, NINE.length() + 4);
        dueFault(TEN + "|a=0", 3, TEN.length() + 3);
        dueFault(TEN + "|a=1", 3, TEN.length() + 3);
    }

    private static void twentyFirstOpen() {
        Doc.says("Terms", "4 the 21st ( ~ -> that is open (( to its ), ~ to the end of its unit, -> to that of its formula);");
        DistanceSolver s = new DistanceSolver();
        Due.is("20 (", Due.read(s, "(".repeat(20) + "a<1" + ")".repeat(20)), 1);
        Due.is("20 ~", Due.read(s, "~".repeat(20) + "a<1"), 1);
        Due.is("20 ->", Due.read(s, "a<1->".repeat(20) + "a<1"), 1);
        dueFault("(".repeat(21) + "a<1" + ")".repeat(21), 4, 20);
        dueFault("~".repeat(21) + "a<1", 4, 20);
        dueFault("a<1->".repeat(21) + "a<1", 4, 103);
        dueFault("~(a<1->".repeat(7) + "a<1" + ")".repeat(7), 4, 47);
        Due.is("20 of all", Due.read(s, "~(a<1->".repeat(6) + "~(a<1" + ")".repeat(7)), 1);

        String in = "(".repeat(20) + "a<1" + ")".repeat(20);
        Due.is("( is open to its )", Due.read(s, in + "&" + in), 1);
        dueFault(in.substring(0, 42) + "&" + "(".repeat(20), 4, 62);
        String not = "~".repeat(20) + "a<1";
        Due.is("~ is open to the end of its unit", Due.read(s, not + "&" + not + "|" + not + "->a<1"), 1);
        dueFault("~(" + not.substring(2) + ")&" + not + "&~" + not, 4, 2 + 18 + 3 + 2 + 23 + 1 + 20);
        dueFault("~(~a<1&" + "~".repeat(19), 4, 7 + 18);
        String arrows = "a<1->".repeat(19) + "a<1";
        Due.is("-> is open to the end of its formula", Due.read(s, "(" + arrows + ")&a<1"), 1);
        Due.is("and no further", Due.read(s, "(a<1->a<1->a<1)&" + "~".repeat(20) + "a<1"), 1);
        dueFault("(" + arrows + "->a<1)", 4, 1 + 98);
        dueFault("a<1->a<1&" + "~".repeat(20), 4, 9 + 19);
        dueFault("(a<1->a<1)->a<1->" + "~".repeat(19), 4, 17 + 18);
    }

    private static void token101() {
        Doc.says("Terms", "5 the 101st token.");
        DistanceSolver s = new DistanceSolver();
        String most = "a>0&".repeat(24) + "~a>0";
        Due.is("100 tokens", Due.read(s, most), 1);
        Due.is("100 tokens and blanks", Due.read(s, most + "  "), 1);
        dueFault(most + "&", 5, 100);
        dueFault(most + "  ->a>0", 5, 102);
        dueFault("a>0&".repeat(25) + "a", 5, 100);
        dueFault("a>0&".repeat(25), 2, 100);
        dueFault("~" + most, 5, 100);
        DistanceSolver t = new DistanceSolver();
        Due.is("100 tokens of the most codes", Due.read(t, "o#0->".repeat(19) + "o#0&".repeat(5) + "~o#0"), 2);
        Due.is("o = 0 is the only way, as what is before each -> is false then", t.ways(), 1);
        Due.is("as row 1", t.way(0), 1);
    }

    private static void ofOneTokenByCode() {
        Doc.says("Terms", "Of one token by code.");
        String tokens100 = "a>0&".repeat(24) + "~a>0";
        dueFault(tokens100 + "$", 1, 100);
        dueFault(tokens100 + "1000001", 1, 99);
        dueFault(tokens100 + " 1000001", 1, 101);
        dueFault(tokens100 + ")", 2, 100);
        dueFault(tokens100 + "~", 2, 100);
        dueFault("~".repeat(20) + ")", 2, 20);
        dueFault("(".repeat(20) + "a->", 2, 21);
        dueFault(TEN + "|k>1000001", 1, TEN.length() + 3);
        dueFault("~~" + TEN + "&a>0".repeat(14) + "&k>0", 3, 2 + 39 + 56 + 3);
        dueFault("a>0->".repeat(20) + "a>0&".repeat(5) + "~", 4, 120);
        dueFault("a>0->".repeat(20) + "a>0&".repeat(4) + "a>-0->", 4, 120);
        dueFault("a>0->".repeat(19) + "a>0&".repeat(5) + "~a>0->", 5, 119);
    }

    private static void formulaStays() {
        Doc.says("Terms", "THE FORMULA of the latest text without a fault stays.");
        String[] wrong = {"$", "a<1000001", "", "a<", TEN + "|k>0", "~".repeat(21), "a>0&".repeat(26), "~a<", "(((a<1", "~(a<1|b<1",
            "a<1->", "a<1&", "a<1|", "(".repeat(20) + "a<-"};
        for (String text : wrong) {
            DistanceSolver s = new DistanceSolver();
            Due.is("a fault in " + text, Due.read(s, text) < 0 ? 1 : 0, 1);
            Due.is("no formula before", s.told(6), 0);
            Due.is("no ways", s.ways(), NONE);
            Due.is("a first formula", Due.read(s, "a-b<=4|c-d<=5"), 2);
            Due.is("nothing of the fault is in it", s.way(0), 1);
            Due.is("a fault in " + text, Due.read(s, text) < 0 ? 1 : 0, 1);
            Due.is("it is there still", s.told(6), 1);
            Due.is("with its atoms", s.told(3), 2);
            Due.is("as they were", s.atom(1, 2), 5);
            Due.is("and its ways", s.ways(), 3);
            Due.is("nothing of the fault is in the next one", Due.read(s, "~".repeat(17) + "(a-b<=4->c-d<=5)"), 2);
            Due.is("it has the contrary's ways", s.ways(), 1);
            Due.is("another one", Due.read(s, "z=0"), 0);
            Due.is("it goes", s.ways(), 1);
            Due.index("with its atoms", () -> s.atom(0, 0));
        }
    }

    private static void rowsAsNumbers() {
        Doc.says("Terms", "A ROW gives each ATOM true or false; as a number its bits are 1 for true, ATOM 0's the highest.");
        dueWays("z=0", 0);
        dueWays("z-a<=0", 1);
        dueWays("z-a>0", 0);
        dueWays("z-a<=0&z-b>0&z-c>0", 4);
        dueWays("z-a>0&z-b>0&z-c<=0", 1);
        String first = "z-a<=0&~(z-b<=0|z-c<=0|z-d<=0|z-e<=0|z-f<=0|z-g<=0|z-h<=0|z-i<=0|z-j<=0)";
        dueWays(first, 512);
        dueWays(first.replace("~", "~~"), IntStream.rangeClosed(513, 1023).toArray());
    }

    private static void waysAreRows() {
        Doc.says("Terms", "It is a WAY if the formula is true by it, and the constraints that are there can be true with"
                + " d(x, y, c), x - y <= c, of those that are true, y - x <= -c - 1 of those that are not.");
        DistanceSolver s = new DistanceSolver();
        Due.read(s, "a-b<=3|a-b>3");
        Due.is("either", s.ways(), 2);
        s.push();
        s.add(1, 2, 4);
        Due.is("4 at most: either", s.ways(), 2);
        s.add(1, 2, 3);
        Due.is("3 at most: true", s.ways(), 1);
        Due.is("as row 1", s.way(0), 1);
        s.pop(1);
        s.push();
        s.add(2, 1, -3);
        Due.is("3 at least: either", s.ways(), 2);
        s.add(2, 1, -4);
        Due.is("4 at least: false", s.ways(), 1);
        Due.is("as row 0", s.way(0), 0);
        s.pop(1);
        Due.read(s, "a-b<=3&a-b>3");
        Due.is("the formula is false by both", s.ways(), 0);
        Due.read(s, "a-b<=3&(b-c<=3|z=0)&c-a<=-7");
        // of the third ATOM, d(1, 3, 6), the contrary is c - a <= -7: a round of 3 + 3 - 7 with the first two
        Due.is("not with both", s.ways(), 1);
        Due.is("with the first alone", s.way(0), 4);
        Due.read(s, "a-b<=3&(b-c<=3|z=0)&c-a<=-6");
        Due.is("a round of 0", s.ways(), 2);
        DistanceSolver full = Look.full();
        Due.is("60 constraints and 10 atoms", full.ways() > 0 ? 1 : 0, 1);
        Due.is("none is left behind", full.told(0), 60);
    }

    // ---- the promises

    private static void feedAnswers() {
        Doc.says("Promise 10", "The lowest n bytes of a number, the highest of these first, come behind the tape: how many it"
                + " has.");
        DistanceSolver s = new DistanceSolver();
        Due.is("one of 8", s.feed(0x2424242424242461L, 1), 1);
        Due.is("two of 8", s.feed(0x2424242424242d62L, 2), 3);
        Due.is("three of 8", s.feed(0x24242424243c3d20L, 3), 6);
        Due.is("seven of 8", s.feed(0x2430303030303037L, 7), 13);
        Due.is("read a-b<= 0000007", s.read(), 1);
        Due.is("its c", s.atom(0, 2), 7);
        Due.is("eight of 8", s.feed(0x612d623d3d202020L, 8), 8);
        Due.is("read a-b==", s.read(), -5);
        Due.is("the second = can't stand there", s.fault(), 2);
        Due.is("a number below 0", s.feed(-1L, 8), 8);
        Due.is("byte 255", s.read(), -1);
        Due.is("the highest byte is above 127", s.feed(0x8061L, 2), 2);
        Due.is("byte 128", s.read(), -1);
        Due.is("it begins no token", s.fault(), 1);
        Due.is("byte 0", s.feed(0L, 1), 1);
        Due.is("is a byte", s.read(), -1);
        Look.asBefore("feed, but for the tape", Look::some, t -> t.feed(0x24, 1), "tape", "tape, read", "tape, checked");
    }

    private static void feedThrows() {
        Doc.says("Promise 10", "IllegalArgument: n is not 1 .. 8.");
        for (int n : new int[] {0, 9, -1, LEAST, GREATEST}) {
            Due.illegal("n = " + n, () -> new DistanceSolver().feed(0, n));
            Due.illegal("n = " + n + " behind 400 bytes", () -> Look.full().feed(0, n));
            Look.asBefore("feed with n = " + n, Look::some, t -> t.feed(0x20, n));
        }
        Due.is("n = 1", new DistanceSolver().feed(0, 1), 1);
        Due.is("n = 8", new DistanceSolver().feed(0, 8), 8);
    }

    private static void feedHasRoom() {
        Doc.says("Promise 10", "UnsupportedOperation: there would be more than 400.");
        for (int n = 1; n <= 8; n++) {
            int size = n;
            Due.unsupported("400 and " + n, () -> Look.full().feed(0x20, size));
            DistanceSolver s = new DistanceSolver();
            Due.feed(s, "z=0" + " ".repeat(400 - 3 - n));
            Due.is("to 400 by " + n, s.feed(0x2020202020202020L, n), 400);
            Due.unsupported("to 401 by 1", () -> s.feed(0x24, 1));
            DistanceSolver t = new DistanceSolver();
            Due.feed(t, "z=0" + " ".repeat(401 - 3 - n));
            Due.unsupported("to 401 by " + n, () -> t.feed(0x24, size));
            Due.is("as before", t.told(4), 401 - n);
            Due.is("none of these bytes has come", t.read(), 0);
        }
        Look.asBefore("feed behind 400", Look::full, t -> t.feed(0x24, 1));
    }

    private static void readAnswers() {
        Doc.says("Promise 11", "The tape, which is empty then, is a formula: how many ATOMS it has; -1 less the place of a"
                + " FAULT (the formula before stays).");
        DistanceSolver s = new DistanceSolver();
        Due.is("nothing is on the tape", s.read(), -1);
        Due.is("that is a fault", s.fault(), 2);
        Due.is("no atoms", Due.read(s, "z=0"), 0);
        Due.is("the tape is empty then", s.told(4), 0);
        Due.is("10 atoms", Due.read(s, TEN), 10);
        Due.is("an empty tape again", s.read(), -1);
        Due.is("the formula before stays", s.told(3), 10);
        Due.is("a fault at 0", Due.read(s, "$"), -1);
        Due.is("the tape is empty then", s.told(4), 0);
        Due.is("a fault at 1", Due.read(s, "a$"), -2);
        Due.is("a fault at the end of 400", Due.read(s, " ".repeat(400)), -401);
        Due.is("the tape is empty then", s.told(4), 0);
        Due.is("the formula before stays", s.ways(), 1023);
        Look.asBefore("a fault, but for the tape", Look::some, t -> {
            Due.feed(t, "$");
            t.read();
        }, "fault", "tape", "tape, read", "tape, checked");
        DistanceSolver again = new DistanceSolver();
        for (int i = 0; i < 12; i++) {
            Due.is("nothing of the text before is in a new one", Due.read(again, "o#0&".repeat(24) + "~o#0"), 2);
            Due.is("its ways", again.ways(), 0);
            Due.is("a short one behind it", Due.read(again, "o=0"), 2);
            Due.is("its ways", again.way(0), 1);
        }
    }

    private static void faultAnswers() {
        Doc.says("Promise 12", "The FAULT of the latest read(), and check(): 0 for none, and before; of a proof 1.");
        DistanceSolver s = new DistanceSolver();
        Due.is("before", s.fault(), 0);
        Due.feed(s, "a$");
        Due.is("before read()", s.fault(), 0);
        s.read();
        Due.is("a byte", s.fault(), 1);
        Due.read(s, "a)");
        Due.is("a token", s.fault(), 2);
        Due.read(s, TEN + "|k<1");
        Due.is("an 11th atom", s.fault(), 3);
        Due.read(s, "~".repeat(21) + "a<1");
        Due.is("a 21st that is open", s.fault(), 4);
        Due.read(s, "a<1&".repeat(25) + "a<1");
        Due.is("a 101st token", s.fault(), 5);
        Due.is("no check without a formula", s.check(true), DistanceSolver.NO_FORMULA);
        Due.is("so it is that of read() still", s.fault(), 5);
        Due.read(s, "z=1");
        Due.is("none", s.fault(), 0);
        Due.check(s, "x");
        Due.is("of a proof", s.fault(), 1);
        Due.check(s, ".");
        Due.is("none of a proof", s.fault(), 0);
        s.check(false);
        Due.is("nothing is written", s.fault(), 1);
        s.prove();
        Due.is("it stays", s.fault(), 1);
        s.check(false);
        Due.is("none of what is written", s.fault(), 0);
        Look.asBefore("fault()", Look::some, DistanceSolver::fault);
    }

    private static void atomAnswers() {
        Doc.says("Promise 13", "Of an ATOM x (what = 0), y (1), c (2).");
        DistanceSolver s = new DistanceSolver();
        Due.read(s, TEN + "&o-n>=-1000000");
        Due.index("a fault: none", () -> s.atom(0, 0));
        Due.read(s, NINE + "&o-n>=-1000000");
        int[] first = {0, 1, -1};
        int[] last = {14, 15, 1000000};
        for (int what = 0; what < 3; what++) {
            Due.is("atom(0, " + what + ")", s.atom(0, what), first[what]);
            Due.is("atom(9, " + what + ")", s.atom(9, what), last[what]);
        }
        Look.asBefore("atom(1, 2)", Look::some, t -> t.atom(1, 2));
    }

    private static void atomThrows() {
        Doc.says("Promise 13", "IndexOutOfBounds; IllegalArgument: another what.");
        DistanceSolver none = new DistanceSolver();
        DistanceSolver constant = new DistanceSolver();
        Due.read(constant, "z=0");
        DistanceSolver three = Look.some();
        for (int k : new int[] {3, 10, -1, LEAST, GREATEST}) {
            Due.index("without a formula, atom(" + k + ", 0)", () -> none.atom(k, 0));
            Due.index("without an atom, atom(" + k + ", 0)", () -> constant.atom(k, 0));
            Due.index("atom(" + k + ", 0) of three", () -> three.atom(k, 0));
            Due.index("atom(" + k + ", 3) of three", () -> three.atom(k, 3));
            Look.asBefore("atom(" + k + ", 0)", Look::some, t -> t.atom(k, 0));
        }
        Due.index("without an atom, atom(0, 0)", () -> constant.atom(0, 0));
        Due.index("atom(10, 0) of 10", () -> Look.full().atom(10, 0));
        Due.is("atom(9, 0) of 10", Look.full().atom(9, 0), 10);
        Due.is("atom(2, 2) of three", three.atom(2, 2), 3);
        for (int what : new int[] {3, -1, LEAST, GREATEST}) {
            Due.illegal("atom(2, " + what + ")", () -> three.atom(2, what));
            Look.asBefore("atom(2, " + what + ")", Look::some, t -> t.atom(2, what));
        }
    }

    private static void waysAnswers() {
        Doc.says("Promise 14", "How many WAYS there are; NONE without a formula.");
        DistanceSolver s = new DistanceSolver();
        Due.is("without a formula", s.ways(), NONE);
        Due.read(s, "a<");
        Due.is("with a fault", s.ways(), NONE);
        Due.read(s, "z=1");
        Due.is("none", s.ways(), 0);
        Due.read(s, "z=0");
        Due.is("one, of no atoms", s.ways(), 1);
        Due.read(s, TEN + "|a<1");
        Due.is("all rows of 10 atoms", s.ways(), 1024);
        Due.read(s, TEN);
        Due.is("all but one", s.ways(), 1023);
        Due.read(s, "~(" + TEN + ")");
        Due.is("one of them", s.ways(), 1);
        Look.asBefore("ways()", Look::some, DistanceSolver::ways);
        Look.asBefore("ways() of 60 and 10", Look::full, DistanceSolver::ways);
    }

    private static void wayAnswers() {
        Doc.says("Promise 15", "The first WAY that is not below a number, as a number; NONE when there is none (and without a"
                + " formula).");
        DistanceSolver s = new DistanceSolver();
        for (int from : new int[] {0, -1, 1, LEAST, GREATEST}) {
            Due.is("without a formula, way(" + from + ")", s.way(from), NONE);
        }
        Due.read(s, "z=1");
        for (int from : new int[] {0, -1, 1, LEAST, GREATEST}) {
            Due.is("without a way, way(" + from + ")", s.way(from), NONE);
        }
        Due.read(s, "z-a<=0&z-b>0|z-c<=0&z-a>0&z-b>0");
        int[][] due = {{LEAST, 1}, {-1, 1}, {0, 1}, {1, 1}, {2, 4}, {3, 4}, {4, 4}, {5, 5}, {6, NONE}, {7, NONE}, {8, NONE},
            {GREATEST, NONE}};
        for (int[] pair : due) {
            Due.is("way(" + pair[0] + ") of 1, 4 and 5", s.way(pair[0]), pair[1]);
        }
        Due.read(s, TEN + "|a<1");
        Due.is("the last of 1024", s.way(1023), 1023);
        Due.is("behind 1024", s.way(1024), NONE);
        Due.is("the first of 1024", s.way(LEAST), 0);
        Look.asBefore("way(0)", Look::some, t -> t.way(0));
        Look.asBefore("way(greatest)", Look::some, t -> t.way(GREATEST));
    }

    private static void valueInAnswers() {
        Doc.says("Promise 16", "THE VALUE of a variable with the differences of a ROW, if that is a WAY; NO else.");
        DistanceSolver s = new DistanceSolver();
        Due.is("without a formula", s.valueIn(0, 0), NO);
        Due.read(s, "z=1");
        Due.is("without a way", s.valueIn(0, 0), NO);
        Due.read(s, "z=0");
        Due.is("a way of no atoms", s.valueIn(0, 15), 0);
        Due.is("no row 1 of no atoms", s.valueIn(1, 15), NO);
        Due.read(s, "a-b<=-1000000|a-b<=999999");
        s.add(2, 15, -1000000);
        Due.is("neither: no way", s.valueIn(0, 1), NO);
        Due.is("the second alone: b sinks by constraint 0", s.valueIn(1, 2), -1000000);
        Due.is("a is not 1000000 below it: at most 0, and 999999 above", s.valueIn(1, 1), -1);
        Due.is("the first without the second can't be", s.valueIn(2, 1), NO);
        Due.is("both", s.valueIn(3, 1), -2000000);
        Due.is("ZERO", s.valueIn(3, 0), 0);
        Due.is("what is free", s.valueIn(3, 9), 0);
        for (int row : new int[] {-1, 4, 1024, LEAST, GREATEST}) {
            Due.is("no row " + row, s.valueIn(row, 1), NO);
            Due.index("no row " + row + ", no variable", () -> s.valueIn(row, 16));
        }
        for (int x : new int[] {-1, 16, LEAST, GREATEST}) {
            Due.index("no variable " + x, () -> s.valueIn(3, x));
            Due.index("no variable " + x + ", no formula", () -> new DistanceSolver().valueIn(0, x));
            Look.asBefore("valueIn(3, " + x + ")", Look::some, t -> t.valueIn(3, x));
        }
        Look.asBefore("valueIn of a way", Look::some, t -> t.valueIn(t.way(0), 1));
        Look.asBefore("valueIn of a way of 60 and 10", Look::full, t -> t.valueIn(t.way(0), 1));
        Look.asBefore("valueIn of no way", Look::some, t -> t.valueIn(99, 1));
        DistanceSolver full = new DistanceSolver();
        for (int k = 0; k < 60; k++) {
            full.add(15, 14, k);
        }
        Due.read(full, TEN.replace(">", "<-").replace('|', '&'));
        Due.is("with 60 constraints and 10 atoms", full.way(0), 0);
        for (int x = 1; x <= 10; x++) {
            Due.is("all are below ZERO, " + x, full.valueIn(0, x), -1);
        }
        Due.is("the constraints are as before", full.told(0), 60);
        DistanceSolver ten = new DistanceSolver();
        Due.read(ten, TEN);
        Due.is("row 1023 of 1024", ten.valueIn(1023, 10), 1);
        Due.is("row 1024 of 1024", ten.valueIn(1024, 10), NO);
    }

    private static void mustAnswers() {
        Doc.says("Promise 17", "What an ATOM is in all WAYS: 1 true, 0 false, NONE when it is one in some, the other in others,"
                + " or there is no WAY.");
        DistanceSolver s = new DistanceSolver();
        Due.index("without a formula", () -> s.must(0));
        Due.read(s, "z=0");
        Due.index("without an atom", () -> s.must(0));
        Due.read(s, "z-a<=0&z-b>0&(z-c<=0|z-d<=0)");
        int[] due = {1, 0, NONE, NONE};
        for (int k = 0; k < due.length; k++) {
            Due.is("must(" + k + ")", s.must(k), due[k]);
        }
        for (int k : new int[] {4, -1, LEAST, GREATEST}) {
            Due.index("must(" + k + ") of four", () -> s.must(k));
            Look.asBefore("must(" + k + ")", Look::some, t -> t.must(k));
        }
        s.push();
        s.add(3, 0, -1);
        Due.is("the third can't be now", s.must(2), 0);
        Due.is("so the fourth must", s.must(3), 1);
        s.add(4, 0, -1);
        for (int k = 0; k < due.length; k++) {
            Due.is("no way, must(" + k + ")", s.must(k), NONE);
        }
        s.pop(1);
        Due.is("as before", s.must(3), NONE);
        Due.read(s, "z-a<=0|z=0");
        Due.is("true in one of two", s.must(0), NONE);
        Due.read(s, "z-a<=0|z-b<=0&z-c<=0");
        Due.is("true in four of five", s.must(0), NONE);
        Due.read(s, "z-a>0|z-b<=0&z-c<=0");
        Due.is("true in one of five", s.must(0), NONE);
        DistanceSolver ten = new DistanceSolver();
        Due.read(ten, NINE.replace('|', '&') + "&j<1");
        Due.is("the first of 10", ten.must(0), 1);
        Due.is("the last of 10", ten.must(9), 0);
        Due.index("must(10) of 10", () -> ten.must(10));
        Look.asBefore("must(0)", Look::some, t -> t.must(0));
    }
}
