import java.util.function.IntPredicate;

/** Promises 10 to 17: the tape, formulas and their faults, atoms, ways and what must be. */
public final class FormulasTest {
    public static void main(String[] args) {
        feeds();
        atoms();
        relations();
        ofOneVariable();
        binding();
        bytesThatBeginNothing();
        tokensThatCantStand();
        elevenAtoms();
        twentyOneOpen();
        tokens101();
        faultsLeaveTheFormula();
        waysAndRows();
        waysFollowTheConstraints();
        tenAtoms();
        Due.end();
    }

    private static void feeds() {
        DistanceSolver s = new DistanceSolver();
        Due.illegal("feed(.., 0)", () -> s.feed(0, 0));
        Due.illegal("feed(.., 9)", () -> s.feed(0, 9));
        Due.illegal("feed(.., -1)", () -> s.feed(0, -1));
        Due.illegal("feed(.., least)", () -> s.feed(0, Integer.MIN_VALUE));
        Due.is("the lowest byte", s.feed(0x7777777777777761L, 1), 1);
        Due.is("the highest first", s.feed(0x999999993c3d31L, 3), 4);
        Due.is("read a<=1", s.read(), 1);
        Due.is("the tape is empty", s.told(4), 0);
        Due.is("its c", s.atom(0, 2), -2);
        Due.is("a byte above 127", s.feed(-1L, 1), 1);
        Due.is("read it", s.read(), -1);
        Due.is("it begins no token", s.fault(), 1);
        for (int i = 1; i <= 49; i++) {
            Due.is("feed 8", s.feed(0x2020202020202020L, 8), 8 * i);
        }
        Due.is("feed to 399", s.feed(0x20202020202020L, 7), 399);
        Due.unsupported("feed 2 to 401", () -> s.feed(0, 2));
        Due.illegal("feed 9 to 408", () -> s.feed(0, 9));
        Due.is("as before", s.told(4), 399);
        Due.is("feed 1 to 400", s.feed(0x20L, 1), 400);
        Due.unsupported("feed 1 to 401", () -> s.feed(0, 1));
        Due.is("blanks alone: the end can't stand there", s.read(), -401);
        Due.is("as a fault", s.fault(), 2);
        Due.is("empty then", s.told(4), 0);
    }

    private static void dueAtoms(String text, int... due) {
        DistanceSolver s = new DistanceSolver();
        Due.is("read " + text, Due.read(s, text), due.length / 3);
        Due.is("fault of " + text, s.fault(), 0);
        Due.is("atoms of " + text, s.told(3), due.length / 3);
        Due.is("a formula " + text, s.told(6), 1);
        for (int i = 0; i < due.length; i++) {
            Due.is("atom(" + i / 3 + ", " + i % 3 + ") of " + text, s.atom(i / 3, i % 3), due[i]);
        }
        Due.index("behind the atoms of " + text, () -> s.atom(due.length / 3, 0));
        Due.index("before the atoms of " + text, () -> s.atom(-1, 7));
        if (due.length > 0) {
            Due.illegal("atom(0, 3) of " + text, () -> s.atom(0, 3));
            Due.illegal("atom(0, -1) of " + text, () -> s.atom(0, -1));
        }
    }

    private static void atoms() {
        dueAtoms("a-b<=5", 1, 2, 5);
        dueAtoms("a-b<5", 1, 2, 4);
        dueAtoms("a-b>=5", 1, 2, 4);
        dueAtoms("a-b>5", 1, 2, 5);
        dueAtoms("a-b=5", 1, 2, 5, 1, 2, 4);
        dueAtoms("a-b#5", 1, 2, 5, 1, 2, 4);
        dueAtoms("b-a<=5", 1, 2, -6);
        dueAtoms("b-a<5", 1, 2, -5);
        dueAtoms("b-a>=-5", 1, 2, 5);
        dueAtoms("b-a>-5", 1, 2, 4);
        dueAtoms("b-a=-5", 1, 2, 4, 1, 2, 5);
        dueAtoms("b - a # - 5", 1, 2, 4, 1, 2, 5);
        dueAtoms("o<=3", 0, 15, -4);
        dueAtoms("z-o<=3", 0, 15, 3);
        dueAtoms("o-z<=3", 0, 15, -4);
        dueAtoms("z<=3");
        dueAtoms("a-a#3");
        dueAtoms("a-b<-1000000", 1, 2, -1000001);
        dueAtoms("b-a<=1000000", 1, 2, -1000001);
        dueAtoms("b-a<-1000000", 1, 2, 1000000);
        dueAtoms("a-b<=0001000", 1, 2, 1000);
        dueAtoms("a-b<=1&b-a<=-2&a-b>1|a-b=2", 1, 2, 1, 1, 2, 2);
        dueAtoms("  a   -b <=\u0020\u0020 5  ", 1, 2, 5);
    }

    /** What a relation is, by the ways of z's and another's difference that is fixed by constraints. */
    private static void relations() {
        String[] signs = {"<=", "<", ">=", ">", "=", "#"};
        for (int v = -3; v <= 3; v++) {
            for (int n = -2; n <= 2; n++) {
                boolean[] due = {v <= n, v < n, v >= n, v > n, v == n, v != n};
                for (int i = 0; i < signs.length; i++) {
                    dueTruth("c-g" + signs[i] + n, 3, 7, v, due[i]);
                    dueTruth("g-c" + signs[i] + n, 7, 3, v, due[i]);
                    dueTruth("g" + signs[i] + n, 7, 0, v, due[i]);
                    dueTruth("z-g" + signs[i] + n, 0, 7, v, due[i]);
                }
            }
        }
    }

    private static void dueTruth(String text, int x, int y, int difference, boolean due) {
        DistanceSolver s = new DistanceSolver();
        s.add(x, y, difference);
        s.add(y, x, -difference);
        Due.read(s, text);
        Due.is("ways of " + text + " at " + difference, s.ways(), due ? 1 : 0);
    }

    private static void ofOneVariable() {
        String[] yes = {"a-a<=0", "a-a<1", "a-a>=0", "z>-1", "z=0", "z-z#1", "~a-a<0"};
        String[] no = {"a-a<=-1", "a-a<0", "a-a>=1", "z>0", "z=1", "z-z#0", "~z=0"};
        for (int i = 0; i < yes.length; i++) {
            dueConstant(yes[i], 1);
            dueConstant(no[i], 0);
        }
    }

    private static void dueConstant(String text, int due) {
        DistanceSolver s = new DistanceSolver();
        Due.is("read " + text, Due.read(s, text), 0);
        Due.is("ways of " + text, s.ways(), due);
        Due.is("way of " + text, s.way(0), due - 1);
        Due.is("no way above that of " + text, s.way(1), DistanceSolver.NONE);
        Due.is("valueIn of " + text, s.valueIn(0, 4), due == 1 ? 0 : DistanceSolver.NO);
        Due.is("prove " + text, s.prove(), due == 1 ? DistanceSolver.NONE : 1);
    }

    /** The ATOMS a>0, b>0 and so on are free of one another, so each row of truths can be. */
    private static void dueRows(String text, int atoms, IntPredicate due) {
        DistanceSolver s = new DistanceSolver();
        Due.is("read " + text, Due.read(s, text), atoms);
        int count = 0;
        for (int row = 0; row < 1 << atoms; row++) {
            boolean is = due.test(row);
            count += is ? 1 : 0;
            Due.is("row " + row + " of " + text, s.way(row) == row ? 1 : 0, is ? 1 : 0);
        }
        Due.is("ways of " + text, s.ways(), count);
    }

    private static void binding() {
        dueRows("a>0|b>0&c>0", 3, r -> (r & 4) != 0 || (r & 3) == 3);
        dueRows("a>0&b>0|c>0", 3, r -> (r & 6) == 6 || (r & 1) != 0);
        dueRows("(a>0|b>0)&c>0", 3, r -> (r & 6) != 0 && (r & 1) != 0);
        dueRows("a>0->b>0->c>0", 3, r -> (r & 6) != 6 || (r & 1) != 0);
        dueRows("(a>0->b>0)->c>0", 3, r -> (r & 6) == 4 || (r & 1) != 0);
        dueRows("a>0|b>0->c>0&d>0", 4, r -> (r & 12) == 0 || (r & 3) == 3);
        dueRows("a>0->b>0|c>0->d>0", 4, r -> (r & 8) == 0 || (r & 6) == 0 || (r & 1) != 0);
        dueRows("~a>0&b>0", 2, r -> r == 1);
        dueRows("~(a>0&b>0)", 2, r -> r != 3);
        dueRows("~~a>0|~~~b>0", 2, r -> r != 1);
        dueRows("~a>0->b>0", 2, r -> r != 0);
        dueRows("((a>0))", 1, r -> r == 1);
        dueRows("a<1", 1, r -> r == 0);
    }

    private static void dueFault(String text, int code, int place) {
        DistanceSolver s = new DistanceSolver();
        Due.is("read " + text, Due.read(s, text), -1 - place);
        Due.is("fault of " + text, s.fault(), code);
        Due.is("no formula by " + text, s.told(6), 0);
        Due.is("no atoms by " + text, s.told(3), 0);
        Due.is("the tape is empty behind " + text, s.told(4), 0);
    }

    private static void bytesThatBeginNothing() {
        dueFault("a<1 $", 1, 4);
        dueFault("p<1", 1, 0);
        dueFault("y<1", 1, 0);
        dueFault("A<1", 1, 0);
        dueFault("a\t<1", 1, 1);
        dueFault("a!=1", 1, 1);
        dueFault("\u0000", 1, 0);
        dueFault("a<1\u00ff", 1, 3);
        dueFault("a<12345678", 1, 2);
        dueFault("a<00000001", 1, 2);
        dueFault("a<1000001", 1, 2);
        dueFault("a<-1000001", 1, 3);
        dueFault("a<9999999999999999999999999", 1, 2);
        dueFault("a<1 99999999", 1, 4);
        dueFault("a<1 [", 1, 4);
        dueFault("a <`", 1, 3);
    }

    private static void tokensThatCantStand() {
        dueFault("", 2, 0);
        dueFault("   ", 2, 3);
        dueFault("a", 2, 1);
        dueFault("a ", 2, 2);
        dueFault("a-", 2, 2);
        dueFault("a-b", 2, 3);
        dueFault("a<", 2, 2);
        dueFault("a<-", 2, 3);
        dueFault("a<--1", 2, 3);
        dueFault("a<b", 2, 2);
        dueFault("a->1", 2, 1);
        dueFault("a-1<2", 2, 2);
        dueFault("a-b-c<1", 2, 3);
        dueFault("a-(b)<1", 2, 2);
        dueFault("ab<1", 2, 1);
        dueFault("a<1)", 2, 3);
        dueFault("(a<1", 2, 4);
        dueFault("(a<1 ", 2, 5);
        dueFault("(a<1))", 2, 5);
        dueFault("()", 2, 1);
        dueFault("a<1 b<1", 2, 4);
        dueFault("a<1 2", 2, 4);
        dueFault("a<1&", 2, 4);
        dueFault("a<1&&b<1", 2, 4);
        dueFault("a<1||b<1", 2, 4);
        dueFault("a<1->", 2, 5);
        dueFault("a<1->->b<1", 2, 5);
        dueFault("a<1 - > b<1", 2, 4);
        dueFault("a<1~b<1", 2, 3);
        dueFault("a<1(b<1)", 2, 3);
        dueFault("~", 2, 1);
        dueFault("~&", 2, 1);
        dueFault("-a<1", 2, 0);
        dueFault("5<a", 2, 0);
        dueFault("a=<1", 2, 2);
        dueFault("a=>1", 2, 2);
        dueFault("a<>1", 2, 2);
        dueFault("a<= =1", 2, 4);
        dueFault("a<->1", 2, 2);
        dueFault("a##1", 2, 2);
        dueFault("a<(1)", 2, 2);
    }

    private static String manyAtoms(int count) {
        StringBuilder b = new StringBuilder();
        for (int k = 0; k < count; k++) {
            b.append(k == 0 ? "" : "|").append((char) ('a' + k)).append(">0");
        }
        return b.toString();
    }

    private static void elevenAtoms() {
        String nine = manyAtoms(9);
        String ten = manyAtoms(10);
        DistanceSolver s = new DistanceSolver();
        Due.is("10 atoms", Due.read(s, ten), 10);
        Due.is("10 atoms, of which some again", Due.read(s, ten + "&a<1|j<=0|c#1&z=0"), -1 - (ten.length() + 12));
        Due.is("the c#1 has one more", s.fault(), 3);
        Due.is("10 atoms, all again", Due.read(s, ten + "&a<1|j<=0"), 10);
        Due.is("9 and one of =", Due.read(s, nine + "|a=1"), 10);
        Due.is("9 and one of #, alike", Due.read(s, nine + "|a#0"), 10);
        dueFault(ten + "&k<1", 3, ten.length() + 3);
        dueFault(ten + "&k-a>= - 17", 3, ten.length() + 9);
        dueFault(nine + "|a-b=3", 3, nine.length() + 5);
        dueFault(nine + "|a-b=-3", 3, nine.length() + 6);
        dueFault(ten + "&k<1000001", 1, ten.length() + 3);
        dueFault(ten + "&k<1$", 3, ten.length() + 3);
        dueFault(ten + "$k<1", 1, ten.length());
    }

    private static void twentyOneOpen() {
        DistanceSolver s = new DistanceSolver();
        String arrows19 = "a>0->".repeat(19);
        Due.is("20 (", Due.read(s, "(".repeat(20) + "a>0" + ")".repeat(20)), 1);
        Due.is("20 ~", Due.read(s, "~".repeat(20) + "a>0"), 1);
        Due.is("20 ~ are none", s.way(0), 1);
        Due.is("20 ->", Due.read(s, "a>0->".repeat(20) + "b>0"), 2);
        Due.is("20 ~ twice", Due.read(s, "~".repeat(20) + "a>0&" + "~".repeat(20) + "b>0|" + "~".repeat(20) + "c>0"), 3);
        Due.is("20 ( twice", Due.read(s, "(".repeat(20) + "a>0" + ")".repeat(20) + "&" + "(".repeat(20) + "b>0" + ")".repeat(20)), 2);
        String in17 = "(".repeat(17) + "a>0->a>0->a>0->b>0" + ")".repeat(17);
        Due.is("-> that end with their (", Due.read(s, in17 + "&" + in17), 2);
        Due.is("~ ( ~ (, again and again", Due.read(s, "~(".repeat(10) + "a>0" + ")".repeat(10) + "|" + "~(".repeat(10) + "a>0" + ")".repeat(10)), 1);
        dueFault("(".repeat(21) + "a>0" + ")".repeat(21), 4, 20);
        dueFault("~".repeat(21) + "a>0", 4, 20);
        dueFault("a>0->".repeat(21) + "a>0", 4, 103);
        dueFault("~(".repeat(10) + "~a>0", 4, 20);
        dueFault(arrows19 + "~~a>0", 4, 19 * 5 + 1);
        dueFault(arrows19 + "~(a>0)", 4, 19 * 5 + 1);
        dueFault(arrows19 + "~a>0->(a>0)", 4, 19 * 5 + 6);
        dueFault("~(" + "a>0->".repeat(18) + "a>0->a>0)", 4, 2 + 18 * 5 + 3);
        dueFault(in17 + "&" + "(".repeat(17) + "a>0->a>0->a>0->a>0->a>0", 4, 52 + 1 + 17 + 18);
        dueFault(in17 + "->" + in17, 4, 52 + 2 + 17 + 13);
        dueFault("(".repeat(20) + ")", 2, 20);
        dueFault("(".repeat(20) + "a>0->", 4, 23);
        dueFault("(".repeat(20) + "a->", 2, 21);
    }

    private static void tokens101() {
        String c24 = "a>0&".repeat(24);
        DistanceSolver s = new DistanceSolver();
        Due.is("100 tokens", Due.read(s, "~" + c24 + "a>0"), 1);
        Due.is("100 tokens and blanks", Due.read(s, "~" + c24 + "a>0  "), 1);
        dueFault("~~" + c24 + "a>0", 5, 2 + 96 + 2);
        dueFault("~" + c24 + "a>0&", 5, 1 + 96 + 3);
        dueFault("~" + c24 + "a>0  &", 5, 1 + 96 + 5);
        dueFault(c24 + "a>0&", 2, 96 + 4);
        dueFault(c24 + "a>0&~", 5, 96 + 4);
        dueFault("~" + c24 + "a>0$", 1, 1 + 96 + 3);
        dueFault("~" + c24 + "a>0)", 2, 1 + 96 + 3);
        dueFault("~~" + c24 + "a>1000001", 1, 2 + 96 + 2);
        String ten = manyAtoms(10);
        String fill = "&a>0".repeat(14);
        dueFault("~~" + ten + fill + "&k>0", 3, 2 + 39 + 56 + 3);
        dueFault("~~" + ten + fill + "&j>0", 5, 2 + 39 + 56 + 3);
        String arrows = "a>0->".repeat(20);
        dueFault("~" + "a>0&".repeat(4) + arrows + "a>0->", 4, 1 + 16 + 100 + 3);
        dueFault("a>0&".repeat(5) + arrows + "~", 4, 20 + 100);
        dueFault("a>0&".repeat(5) + arrows + ")", 2, 20 + 100);
    }

    private static void faultsLeaveTheFormula() {
        DistanceSolver s = new DistanceSolver();
        Due.read(s, "a-b<=5&b-c<=6");
        s.ways();
        Due.is("a fault", Due.read(s, "c-d<=1&e<2|"), -12);
        Due.is("its code", s.fault(), 2);
        Due.is("the atoms stay", s.told(3), 2);
        Due.is("with their c", s.atom(1, 2), 6);
        Due.is("the ways stay", s.way(0), 3);
        Due.is("a good one", Due.read(s, "c-d<=1"), 1);
        Due.is("no fault", s.fault(), 0);
        Due.is("the formula is another one", s.atom(0, 0), 3);
        Due.is("its ways", s.way(0), 1);
        Due.is("a constant one", Due.read(s, "z=0"), 0);
        Due.index("it has no atoms", () -> s.must(0));
        String[] brokenOff = {"(((((((((((((((((((a<1", "~~~~~~~~~~~~~~~~~~~", "a<1->b<1->c<1->d<1&", "a<1|b<1|"};
        for (String text : brokenOff) {
            Due.is("broken off: " + text, Due.read(s, text), -1 - text.length());
            Due.is("nothing of it is left", Due.read(s, "~~(a>0->~b>0)"), 2);
            Due.is("the ways behind it", s.ways(), 3);
        }
    }

    private static void waysAndRows() {
        DistanceSolver s = new DistanceSolver();
        s.add(1, 2, 3);
        Due.read(s, "a-b<=5 | b-c<=0 | c-a<=-6");
        // ATOM 0 must be by constraint 0. ATOM 2 is d(1, 3, 5); without it a is 6 above c at least, but a is
        // at most 3 above b: so b is not at most c, as ATOM 1 tells, and row 6 is no way.
        Due.is("ways", s.ways(), 3);
        Due.is("way 4", s.way(4), 4);
        Due.is("way 5", s.way(5), 5);
        Due.is("way 7", s.way(6), 7);
        Due.is("from below", s.way(Integer.MIN_VALUE), 4);
        Due.is("from above", s.way(8), DistanceSolver.NONE);
        Due.is("from far above", s.way(Integer.MAX_VALUE), DistanceSolver.NONE);
        Due.is("must 0", s.must(0), 1);
        Due.is("must 1", s.must(1), DistanceSolver.NONE);
        Due.is("must 2", s.must(2), DistanceSolver.NONE);
        Due.index("must(3)", () -> s.must(3));
        Due.index("must(-1)", () -> s.must(-1));
        // row 4: c - b <= -1, c - a <= -6, a - b <= 3
        Due.is("row 4, a", s.valueIn(4, 1), 0);
        Due.is("row 4, b", s.valueIn(4, 2), 0);
        Due.is("row 4, c", s.valueIn(4, 3), -6);
        Due.is("row 4, z", s.valueIn(4, 0), 0);
        Due.is("no way 6", s.valueIn(6, 1), DistanceSolver.NO);
        Due.is("no way 3", s.valueIn(3, 1), DistanceSolver.NO);
        Due.is("no row 8", s.valueIn(8, 1), DistanceSolver.NO);
        Due.is("no row -1", s.valueIn(-1, 1), DistanceSolver.NO);
        Due.is("no row least", s.valueIn(Integer.MIN_VALUE, 1), DistanceSolver.NO);
        Due.index("no variable", () -> s.valueIn(8, 16));
        Due.is("the constraints are as before", s.told(0), 1);
    }

    private static void waysFollowTheConstraints() {
        DistanceSolver s = new DistanceSolver();
        Due.read(s, "a>3");
        Due.is("one way", s.ways(), 1);
        Due.is("must be", s.must(0), 1);
        s.push();
        s.add(0, 1, 7);
        Due.is("with z - a <= 7 as well", s.ways(), 1);
        Due.is("greatest", s.valueIn(1, 1), 4);
        s.add(1, 0, 3);
        Due.is("not with a <= 3", s.ways(), 0);
        Due.is("nothing must be", s.must(0), DistanceSolver.NONE);
        Due.is("no way", s.way(0), DistanceSolver.NONE);
        Due.is("no value", s.valueIn(1, 1), DistanceSolver.NO);
        s.pop(1);
        Due.is("again", s.ways(), 1);
        Due.read(s, "a<=3");
        Due.is("what must not be", s.must(0), 0);
        Due.is("row 0", s.way(0), 0);
        Due.read(s, "a>3");
        Due.is("row 0 no more", s.valueIn(0, 1), DistanceSolver.NO);
        Due.is("the first one now", s.way(0), 1);
        s.add(1, 0, 3);
        Due.is("no value of what was a way", s.valueIn(1, 1), DistanceSolver.NO);
    }

    private static void tenAtoms() {
        DistanceSolver s = new DistanceSolver();
        Due.read(s, manyAtoms(10));
        Due.is("all but one", s.ways(), 1023);
        Due.is("the first", s.way(0), 1);
        Due.is("the last", s.way(1023), 1023);
        Due.is("a is ATOM 0, the highest bit", s.valueIn(512, 1), 1);
        Due.is("b is not above 0 then", s.valueIn(512, 2), 0);
        Due.is("row 1023", s.valueIn(1023, 10), 1);
        Due.is("no row 1024", s.valueIn(1024, 10), DistanceSolver.NO);
        s.add(1, 0, 0);
        Due.is("without a", s.ways(), 511);
        Due.is("must not be", s.must(0), 0);
    }
}
