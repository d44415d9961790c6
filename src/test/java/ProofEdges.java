/** The edges of promises 18 to 22 and of '3 PROOFS' and what follows it under 'Terms', sentence by sentence. */
final class ProofEdges {
    private static final int NONE = DistanceSolver.NONE;
    private static final int NO_FORMULA = DistanceSolver.NO_FORMULA;
    private static final int LEAST = Integer.MIN_VALUE;
    private static final int GREATEST = Integer.MAX_VALUE;
    private static final int RIGHT = -1;
    private static final String PROOF = "0(.,1(.,2(!2[0];,.)))";

    private ProofEdges() {
    }

    static void all() {
        trees();
        given();
        judged();
        roundsOfItems();
        treesOfAnAtom();
        firstByteThatCantStand();
        faultsOfPoints();
        faultsOfFigures();
        faultsOfItems();
        faultsOfRounds();
        tenTreesOpen();
        noBlanks();
        writtenPoints();
        writtenRounds();
        writtenTrees();
        exceptions();
        constants();

        proveAnswers();
        proveHasRoomFor6000();
        writtenAnswers();
        checkAnswers();
        checkWithoutAFormula();
        toldAnswers();
        toldThrows();
        clears();
    }

    // ---- 3 PROOFS

    /**
     * The formula is ATOM 0, d(a, b, 2), and ATOM 1, d(b, c, 2), and not ATOM 2, d(a, c, 4), so that it leads from c to
     * a with -5 then. Constraint 0 leads from a to c with 4, constraint 1 back with -4, constraint 2 from b to b.
     */
    private static DistanceSolver withRound() {
        DistanceSolver s = new DistanceSolver();
        s.add(1, 3, 4);
        s.add(3, 1, -4);
        s.add(2, 2, 0);
        Due.read(s, "a-b<=2&b-c<=2&c-a<=-5");
        return s;
    }

    private static void dueCheck(DistanceSolver s, String proof, int place) {
        Due.is("check " + proof, Due.check(s, proof), -1 - place);
        Due.is("fault of " + proof, s.fault(), place == RIGHT ? 0 : 1);
    }

    private static void dueCheck(String proof, int place) {
        dueCheck(withRound(), proof, place);
    }

    private static void dueProof(DistanceSolver s, String formula, String due) {
        Due.read(s, formula);
        Due.is("prove " + formula, s.prove(), due.length());
        Due.is("the proof of " + formula, Due.written(s), due);
        Due.is("check it", s.check(false), 0);
    }

    private static void trees() {
        Doc.says("Terms", "TREE: . or ! ITEMS ; or figure ( TREE , TREE ).");
        DistanceSolver s = new DistanceSolver();
        Due.read(s, "z=1");
        dueCheck(s, ".", RIGHT);
        dueCheck(s, "", 0);
        dueCheck(s, "..", 1);
        dueCheck("2(!2[0];,.)", RIGHT);
        dueCheck("2(!2[0];,.)2(!2[0];,.)", 11);
        dueCheck(PROOF, RIGHT);
        for (int end = 0; end < PROOF.length(); end++) {
            dueCheck(PROOF.substring(0, end), end);
        }
    }

    private static void given() {
        Doc.says("Terms", "GIVEN are truths of ATOMS, none at first: figure k gives ATOM k false in the first TREE, true in the"
                + " second one.");
        dueCheck("!0;", 1);
        dueCheck(".", 0);
        dueCheck("0(.,.)", 4);
        dueCheck("2(.,.)", 2);
        dueCheck("2(!2[0];,.)", RIGHT);
        dueCheck("2(!2[0];,!2[0];)", 11);
        // what a tree gives ends with it
        dueCheck("1(0(.,.),!0;)", 10);
        dueCheck("1(0(.,.),0(.,.))", 13);
        dueCheck("1(0(.,.),0(.,2(!2[0];,.)))", RIGHT);
        DistanceSolver s = withRound();
        s.ways();
        // what a proof gives ends with it, also where it breaks off
        dueCheck(s, "0(.,1(", 6);
        dueCheck(s, "!0;", 1);
        dueCheck(s, "0(.,1(", 6);
        Due.is("prove", s.prove(), PROOF.length());
        Due.is("none is given at first", Due.written(s), PROOF);
        dueCheck(s, "0(.,1(", 6);
        s.push();
        Due.is("nor in rows", s.ways(), 0);
        s.add(9, 8, 7);
        dueCheck(s, "0(.,1(", 6);
        Due.is("nor in rows anew", s.ways(), 0);
    }

    /** T is true, F false, O open, as nothing is given; truths are 2, 0 and 1. */
    private static void judged() {
        Doc.says("Terms", "A TREE is RIGHT: . if the formula is false whatever truths the others have, judged so: what is not"
                + " given is OPEN; not of open is open; & is false if one is, else open if one is; | is true if one is, else"
                + " open if one is; a -> b as ~ a | b.");
        String[] units = {"z=1", "a>0", "z=0"};
        for (int i = 0; i < 3; i++) {
            dueJudged(units[i], i);
            dueJudged("~" + units[i], 2 - i);
            for (int j = 0; j < 3; j++) {
                dueJudged(units[i] + "&" + units[j], i == 0 || j == 0 ? 0 : i == 1 || j == 1 ? 1 : 2);
                dueJudged(units[i] + "|" + units[j], i == 2 || j == 2 ? 2 : i == 1 || j == 1 ? 1 : 0);
                dueJudged(units[i] + "->" + units[j], i == 0 || j == 2 ? 2 : i == 1 || j == 1 ? 1 : 0);
            }
        }
        // false by both truths of the ATOM, and yet open
        dueJudged("a>0&a<1", 1);
        dueJudged("a>0|a<1", 1);
        dueJudged("a-b=3&a-b<2", 1);
        dueJudged("a-b#3|a-b=3", 1);
    }

    private static void dueJudged(String formula, int truth) {
        DistanceSolver s = new DistanceSolver();
        Due.read(s, formula);
        dueCheck(s, ".", truth == 0 ? RIGHT : 0);
        Due.read(s, "~(" + formula + ")");
        dueCheck(s, ".", truth == 2 ? RIGHT : 0);
    }

    private static void roundsOfItems() {
        Doc.says("Terms", "! if the ITEMS are a round with a SUM below 0: each a figure, the difference of an ATOM that is given,"
                + " as it is (true or not), or [ NUMBER ], a constraint, 1 or 2 figures; each leads from where the one before"
                + " leads to, the last one to where the first one begins.");
        String before = "0(.,1(.,2(!";
        String after = ";,.)))";
        for (String round : new String[] {"2[0]", "[0]2", "201", "012", "120", "2[00]", "2[0][1][0]", "2[0]2[0]", "0[2]12"}) {
            dueCheck(before + round + after, RIGHT);
        }
        dueCheck(before + "2[0][1][0]2[0]" + after, RIGHT);
        dueCheck("![0][1];", 7);
        dueCheck("![2];", 4);
        dueCheck(before + "[0][1]" + after, 17);

        DistanceSolver s = new DistanceSolver();
        for (int k = 0; k < 60; k++) {
            s.add(1, 2, 59 - k);
        }
        Due.read(s, "a-b>0");
        dueCheck(s, "0(!0[59];,.)", RIGHT);
        dueCheck(s, "0(![59]0;,.)", RIGHT);
        dueCheck(s, "0(!0[58];,.)", 8);
        dueCheck(s, "0(!0[60];,.)", 4);
        dueCheck(s, "0(!0[99];,.)", 4);
        dueCheck(s, "0(!0[059];,.)", 7);
        dueCheck(s, "0(!0[];,.)", 5);
        dueCheck(s, "0(!0[5 9];,.)", 6);
        Due.read(s, "a-b>9");
        dueCheck(s, "0(!0[50];,.)", RIGHT);
        dueCheck(s, "0(!0[49];,.)", 8);
        dueCheck(s, "0(!0[9];,.)", 7);
        Due.read(s, "a-b>50");
        dueCheck(s, "0(!0[9];,.)", RIGHT);
        dueCheck(s, "0(!0[09];,.)", RIGHT);
        dueCheck(s, "0(!0[8];,.)", 7);
    }

    private static void treesOfAnAtom() {
        Doc.says("Terms", "figure ( .. ) if that ATOM is there and not given, and both TREES are.");
        dueCheck("2(!2[0];,.)", RIGHT);
        dueCheck("3(.,.)", 0);
        dueCheck("9(.,.)", 0);
        dueCheck("0(0(.,.),.)", 2);
        dueCheck("0(.,0(.,.))", 4);
        dueCheck("0(!;,.)", 3);
        dueCheck("0(.,!;)", 5);
        DistanceSolver none = new DistanceSolver();
        Due.read(none, "z=1");
        dueCheck(none, "0(.,.)", 0);
        dueCheck(none, ".", RIGHT);
        DistanceSolver ten = ten();
        dueCheck(ten, "9(.,9", 4);
        dueCheck(ten, "9(.,", 4);
    }

    /** By the proof so far these bytes, and no other ones, can stand next; in the last text it is ended. */
    private static final String[][] STANDS = {
        {"", "!012"},
        {"0", "("},
        {"0(", ".!12"},
        {"0(.", ","},
        {"0(.,", "!12"},
        {"0(.,1", "("},
        {"0(.,1(.,2(", "!"},
        {"0(.,1(.,2(!", "012["},
        {"0(.,1(.,2(!2", "0["},
        {"0(.,1(.,2(!2[", "0123456789"},
        {"0(.,1(.,2(!2[0", "]0123456789"},
        {"0(.,1(.,2(!2[00", "]"},
        {"0(.,1(.,2(!2[0]", ";2["},
        {"0(.,1(.,2(!2[0];", ","},
        {"0(.,1(.,2(!2[0];,", ".!"},
        {"0(.,1(.,2(!2[0];,.", ")"},
        {"0(.,1(.,2(!2[0];,.)", ")"},
        {PROOF, ""},
    };

    private static void firstByteThatCantStand() {
        Doc.says("Terms", "FAULTS of a proof: the first byte that can't stand there (the end: the length), or with which a TREE"
                + " isn't right:");
        for (String[] row : STANDS) {
            DistanceSolver s = withRound();
            for (int b = 0; b < 256; b++) {
                // a new object before its 512 calls are over
                s = b % 64 == 0 ? withRound() : s;
                boolean stands = row[1].indexOf(b) >= 0;
                dueCheck(s, row[0] + (char) b, row[0].length() + (stands ? 1 : 0));
            }
        }
        // the first of several
        dueCheck("0(.,.)x", 4);
        dueCheck("0(x,.)", 2);
        dueCheck("!0x", 1);
        dueCheck(PROOF + "xx", 21);
    }

    private static void faultsOfPoints() {
        Doc.says("Terms", "the . ;");
        dueCheck(".", 0);
        dueCheck("0(.,.)", 4);
        dueCheck("0(.,1(.,.))", 8);
        dueCheck("0(.,1(.,2(.,.)))", 10);
        dueCheck("2(!2[0];,.)", RIGHT);
    }

    private static void faultsOfFigures() {
        Doc.says("Terms", "the figure, if its ATOM is not there, or (of a tree) given, (as an ITEM) not given,");
        for (int k = 3; k <= 9; k++) {
            dueCheck(k + "(.,.)", 0);
            dueCheck("0(" + k + "(.,.),.)", 2);
            dueCheck("0(!" + k + ";,.)", 3);
        }
        for (int k = 0; k < 3; k++) {
            dueCheck(k + "(" + k + "(.,.),.)", 2);
            dueCheck("!" + k + ";", 1);
        }
        dueCheck("0(!1;,.)", 3);
        dueCheck("0(!01;,.)", 4);
        dueCheck("0(.,!01;)", 6);
        dueCheck("2(![0]20;,.)", 7);
    }

    private static void faultsOfItems() {
        Doc.says("Terms", "the ITEM's first byte, if it is no constraint's, or does not begin where the one before leads to;");
        dueCheck("![3];", 1);
        dueCheck("![03];", 1);
        dueCheck("![60];", 1);
        dueCheck("![99];", 1);
        dueCheck("![0][3];", 4);
        dueCheck("![0][0];", 4);
        dueCheck("![0][2];", 4);
        dueCheck("![0][1][1];", 7);
        dueCheck("0(.,!00;)", 6);
        dueCheck("0(.,!0[0];)", 6);
        dueCheck("0(.,!0[2][1];)", 9);
        dueCheck("2(!2[1];,.)", 4);
        dueCheck("2(![0][1]2;,.)", 9);
        DistanceSolver none = new DistanceSolver();
        Due.read(none, "a>0");
        dueCheck(none, "![0];", 1);
        Due.is("a constraint", none.add(1, 1, 0), 0);
        dueCheck(none, "![0];", 4);
    }

    private static void faultsOfRounds() {
        Doc.says("Terms", "the ; if the round does not close, or is not below 0, or there is no ITEM;");
        dueCheck("!;", 1);
        dueCheck("0(!;,.)", 3);
        dueCheck("![0];", 4);
        dueCheck("![1];", 4);
        dueCheck("0(!0[2];,.)", 4);
        dueCheck("0(!0;,.)", 4);
        dueCheck("0(.,!0;)", 6);
        dueCheck("2(!2;,.)", 4);
        dueCheck("![2];", 4);
        dueCheck("![0][1];", 7);
        dueCheck("![0][1][0][1];", 13);
        dueCheck("2(!2[0];,.)", RIGHT);
        // one with a SUM of 0 and one of -1
        DistanceSolver s = new DistanceSolver();
        s.add(1, 2, 1000000);
        s.add(2, 1, -1000000);
        Due.read(s, "a-b#1000000");
        dueCheck(s, "0(!0[0];,1(!1[0];,.))", 16);
        dueCheck(s, "0(!0[0];,1(.,!1[1];))", RIGHT);
        dueCheck(s, "0(!0[0][1][0];,1(.,![1]1;))", RIGHT);
        dueCheck(s, "0(![0][1];,1(.,![1]1;))", 9);
    }

    /** Ten ATOMS, d(z, a, -1) and so on, all of which must be true, and the last of which can't be. */
    private static DistanceSolver ten() {
        DistanceSolver s = new DistanceSolver();
        s.add(10, 0, 0);
        Due.read(s, "a>0&b>0&c>0&d>0&e>0&f>0&g>0&h>0&i>0&j>0");
        return s;
    }

    private static void tenTreesOpen() {
        Doc.says("Terms", "at most 10 trees with ( are open, by that they are given.");
        StringBuilder open = new StringBuilder();
        StringBuilder back = new StringBuilder();
        for (int k = 0; k < 10; k++) {
            open.append(k).append("(.,");
            back.append(9 - k).append("(.,");
        }
        String close = ")".repeat(10);
        DistanceSolver s = ten();
        dueCheck(s, open + "!9[0];" + close, RIGHT);
        dueCheck(s, back + "!9[0];" + close, RIGHT);
        for (int k = 0; k < 10; k++) {
            dueCheck(s, open.toString() + k + "(.,.)" + close, 40);
        }
        dueCheck(s, open + "!9[0];" + close + ")", 56);
        dueCheck(s, open + "!9[0];" + close.substring(1), 55);
        // in the first trees, too
        StringBuilder left = new StringBuilder();
        for (int k = 0; k < 10; k++) {
            left.append(k).append('(');
        }
        // where only ATOM 0 is given, as true, ATOM 9 is no ITEM, and the formula is open
        dueCheck(s, left + ".,." + "),.".repeat(8) + "),!9[0];)", 50);
        dueCheck(s, left + ".,!9[0];" + "),.".repeat(9) + ")", 54);
        dueCheck(s, left + "0(", 20);
    }

    private static void noBlanks() {
        Doc.says("Terms", "(No blanks.)");
        for (int place = 0; place <= PROOF.length(); place++) {
            dueCheck(PROOF.substring(0, place) + " " + PROOF.substring(place), place);
        }
    }

    private static void writtenPoints() {
        Doc.says("Terms", "WRITTEN, a proof is: of a TREE with what is given . if that is right;");
        DistanceSolver s = new DistanceSolver();
        dueProof(s, "z=1", ".");
        dueProof(s, "z=1&a>0", ".");
        dueProof(s, "~(a>0->z=0)", ".");
        dueProof(s, "a>0&a<1", "0(.,.)");
        dueProof(s, "(a>0|b>0)&a<1&b<1", "0(1(.,.),.)");
        s.add(1, 0, 0);
        // both are so: the . comes first
        dueProof(s, "a>0&a<1", "0(.,.)");
        dueProof(s, "a>0", "0(.,!0[0];)");
    }

    private static void writtenRounds() {
        Doc.says("Terms", "else, if the latest that was given can't be true with all before: ! and a CORE, the differences given"
                + " counting as behind all constraints, by the numbers of their ATOMS, each as an ITEM, the latest one first,"
                + " ;");
        dueProof(withRound(), "a-b<=2&b-c<=2&c-a<=-5", "0(.,1(.,2(!2[0];,.)))");
        DistanceSolver s = new DistanceSolver();
        dueProof(s, "a-b<=2&b-c<=2&c-a<=-5", "0(.,1(.,2(!201;,.)))");
        s.add(1, 3, 5);
        dueProof(s, "a-b<=2&b-c<=2&c-a<=-5", "0(.,1(.,2(!201;,.)))");
        for (int k = 1; k < 9; k++) {
            s.add(9, 9, 0);
        }
        s.push();
        s.add(1, 3, 4);
        dueProof(s, "a-b<=2&b-c<=2&c-a<=-5", "0(.,1(.,2(!2[9];,.)))");
        s.pop(1);
        s.add(9, 9, 0);
        s.push();
        s.add(1, 3, 4);
        dueProof(s, "a-b<=2&b-c<=2&c-a<=-5", "0(.,1(.,2(!2[10];,.)))");
        s.pop(1);
        for (int k = 10; k < 57; k++) {
            s.add(9, 9, 0);
        }
        // of constraint 58 and ATOM 0 the constraint is first, of ATOM 1 and constraint 59 as well
        s.add(1, 3, 5);
        s.add(1, 2, 2);
        s.add(2, 3, 2);
        dueProof(s, "a-b<=2&b-c<=2&c-a<=-5", "0(.,1(.,2(!2[58][59];,.)))");
        Due.is("60 constraints are there", s.told(0), 60);
        DistanceSolver t = new DistanceSolver();
        // either of two ATOMS is enough: the first; only the second one is
        dueProof(t, "a-b<=2&a-b<=1&a-b>3", "0(.,1(.,2(!20;,.)))");
        dueProof(t, "a-b<=1&a-b<=2&a-b>3", "0(.,1(.,2(!20;,.)))");
        dueProof(t, "a-b<=5&a-b<=2&a-b>3", "0(.,1(.,2(!21;,.)))");
    }

    private static void writtenTrees() {
        Doc.says("Terms", "else of the first ATOM that is not given figure ( TREE , TREE ).");
        dueProof(new DistanceSolver(), "b>0&a>0&b<1", "0(.,.)");
        dueProof(new DistanceSolver(), "(a>0|b>0)&b<1&a<1", "0(1(.,.),.)");
        dueProof(new DistanceSolver(), "(b>0|a>0)&a<1&b<1", "0(1(.,.),.)");
        DistanceSolver s = ten();
        Due.is("10 trees are open", s.prove(), 56);
        Due.is("the last of them", s.written(36), '9');
        Due.is("is right", s.check(false), 0);
    }

    private static void exceptions() {
        Doc.says("Terms", "IndexOutOfBounds: there is no such variable, constraint, place, byte. IllegalArgument: another number."
                + " UnsupportedOperation: there is no room.");
        DistanceSolver s = Look.full();
        Due.index("no variable, another number, no room", () -> s.add(16, 0, 1000001));
        Due.illegal("another number, no room", () -> s.add(15, 0, 1000001));
        Due.unsupported("no room", () -> s.add(15, 0, 1000000));
        Due.index("no variable, another number", () -> s.why(0, 16, -1));
        Due.illegal("another number", () -> s.why(0, 15, -1));
        Due.index("no constraint, another number", () -> s.constraint(60, 5));
        Due.illegal("another number of a constraint", () -> s.constraint(59, 5));
        Due.index("no place", () -> s.core(16));
        Due.illegal("another number, no room on the tape", () -> s.feed(0, 9));
        Due.unsupported("no room on the tape", () -> s.feed(0, 8));
        Due.index("no atom, another number", () -> s.atom(10, 3));
        Due.illegal("another number of an atom", () -> s.atom(9, 3));
        Due.index("no byte", () -> s.written(s.told(5)));
        Due.illegal("more levels than there are", () -> s.pop(21));
        Due.unsupported("no room for a level", s::push);
        Look.asBefore("all of these", Look::full, t -> {
            Due.Call[] calls = {() -> t.add(16, 0, 1000001), () -> t.add(15, 0, 1000001), () -> t.add(15, 0, 1000000),
                () -> t.why(0, 16, -1), () -> t.constraint(60, 5), () -> t.core(16), () -> t.feed(0, 9), () -> t.feed(0, 8),
                () -> t.atom(10, 3), () -> t.written(-1), () -> t.pop(21), t::push};
            for (Due.Call call : calls) {
                Look.answer(call);
            }
        });
    }

    private static void constants() {
        Doc.says("Terms", "The constants: `NO = Long.MIN_VALUE`: There is none.");
        Due.is("NO", DistanceSolver.NO, Long.MIN_VALUE);
        Due.is("no bound", new DistanceSolver().bound(1, 2), Long.MIN_VALUE);
        Due.is("no way", new DistanceSolver().valueIn(0, 2), Long.MIN_VALUE);
        Doc.says("Terms", "`NO_FORMULA = -20000`: There is no formula.");
        Due.is("NO_FORMULA", NO_FORMULA, -20000);
        Due.is("no formula", new DistanceSolver().check(false), -20000);
        Doc.says("The public face", "public static final int NONE = -1;");
        Due.is("NONE", NONE, -1);
        Due.is("no ways", new DistanceSolver().ways(), -1);
    }

    // ---- the promises

    private static void proveAnswers() {
        Doc.says("Promise 18", "A proof is WRITTEN that there is no WAY: how many bytes; NONE, and nothing is written then, if"
                + " there is one, there is no formula,");
        DistanceSolver s = new DistanceSolver();
        Due.is("no formula", s.prove(), NONE);
        Due.is("nothing is written", s.told(5), 0);
        Due.read(s, "z=0");
        Due.is("there is one, of no atoms", s.prove(), NONE);
        Due.read(s, "z=1");
        Due.is("one byte", s.prove(), 1);
        Due.is("it is written", s.told(5), 1);
        Due.read(s, "a-b>3");
        Due.is("it stays until prove()", s.told(5), 1);
        Due.is("there is one", s.prove(), NONE);
        Due.is("nothing is written then", s.told(5), 0);
        Due.index("no byte of it", () -> s.written(0));
        s.push();
        s.add(1, 2, 4);
        Due.is("there is one still", s.prove(), NONE);
        s.add(1, 2, 3);
        Due.is("there is none now", s.prove(), 11);
        s.pop(1);
        Due.is("it stays at pop()", s.told(5), 11);
        Due.is("there is one again", s.prove(), NONE);
        Due.is("nothing is written then", s.told(5), 0);
        Look.asBefore("prove(), but for what is written", Look::some, DistanceSolver::prove, "written", "written, checked", "tape, read");
        Look.asBefore("prove() again", () -> {
            DistanceSolver t = withRound();
            t.prove();
            return t;
        }, DistanceSolver::prove);
    }

    /**
     * It is (p0|..|p9) & p9 & (~p9 | H) of free ATOMS p0 .. p8: not false before ATOM 9 is given, so the tree has 1023
     * trees with ( and 1024 leaves, 5116 bytes if all of these are a point. p9 can't be by the constraints; where H is
     * true, the leaf is not a point but that round.
     */
    private static String manyLeaves(String h) {
        return "(a>0|b>0|c>0|d>0|e>0|f>0|g>0|h>0|i>0|j>0)&j>0&(j<1|" + h + ")";
    }

    private static void proveHasRoomFor6000() {
        Doc.says("Promise 18", "or it has more than 6000.");
        DistanceSolver s = new DistanceSolver();
        for (int k = 0; k < 9; k++) {
            s.add(15, 15, k);
        }
        s.push();
        s.add(10, 11, 0);
        s.add(11, 12, 0);
        s.add(12, 0, 0);
        // H has 68 rows
        Due.is("read", Due.read(s, manyLeaves("a<1&b<1&(c<1|d<1&e<1&f<1&g<1)")), 10);
        Due.is("68 rounds !9[9][10][11];", s.prove(), 5116 + 13 * 68);
        Due.is("that is 6000", s.told(5), 6000);
        Due.is("its first byte", s.written(0), '0');
        Due.is("its last byte", s.written(5999), ')');
        Due.index("behind it", () -> s.written(6000));
        Due.is("it is right", s.check(false), 0);
        s.pop(1);
        s.add(15, 15, 9);
        s.add(10, 11, 0);
        s.add(11, 12, 0);
        s.add(12, 0, 0);
        Due.is("6068 bytes", s.prove(), NONE);
        Due.is("nothing is written", s.told(5), 0);
        Due.is("nothing is right", s.check(false), -1);
        Due.is("the constraints are as before", s.told(0), 13);

        // H has 177 rows, and 176 without i<1
        String h177 = "a<1&(b<1|c<1&(d<1|e<1|f<1&g<1&h<1&i<1))";
        DistanceSolver t = new DistanceSolver();
        t.add(10, 0, 0);
        Due.is("read", Due.read(t, manyLeaves(h177)), 10);
        Due.is("177 rounds !9[0]; are 6001 bytes", t.prove(), NONE);
        Due.is("nothing is written", t.told(5), 0);
        Due.is("there is no way, though", t.ways(), 0);
        Due.is("read", Due.read(t, manyLeaves(h177.replace("&i<1", "&z=1"))), 10);
        Due.is("176 of them are 5996 bytes", t.prove(), 5996);
        Due.is("they are right", t.check(false), 0);
    }

    private static void writtenAnswers() {
        Doc.says("Promise 19", "Byte i of what was written latest.");
        DistanceSolver s = new DistanceSolver();
        int[] places = {0, -1, LEAST, GREATEST};
        for (int i : places) {
            Due.index("nothing is written, written(" + i + ")", () -> s.written(i));
        }
        Due.read(s, "z=1");
        s.prove();
        Due.is("the only byte", s.written(0), '.');
        Due.index("behind it", () -> s.written(1));
        Due.read(s, "a>0&a<1");
        s.prove();
        Due.is("the first of six", s.written(0), '0');
        Due.is("the last of six", s.written(5), ')');
        for (int i : new int[] {6, -1, 6000, LEAST, GREATEST}) {
            Due.index("written(" + i + ") of six", () -> s.written(i));
            Look.asBefore("written(" + i + ")", Look::some, t -> t.written(i == 6 ? 11 : i));
        }
        Due.read(s, "z=1");
        s.prove();
        Due.index("the longer one is gone", () -> s.written(1));
        Look.asBefore("written(0)", Look::some, t -> t.written(0));
    }

    private static void checkAnswers() {
        Doc.says("Promise 20", "What was written latest, or the tape, which is empty then, is checked as a proof of the formula as"
                + " it is now: 0 when it is RIGHT, -1 less the place of its fault otherwise;");
        DistanceSolver s = withRound();
        Due.is("nothing is written", s.check(false), -1);
        Due.is("nothing is on the tape", s.check(true), -1);
        s.prove();
        Due.feed(s, "0(.,x");
        Due.is("what was written", s.check(false), 0);
        Due.is("the tape stays", s.told(4), 5);
        Due.is("the tape", s.check(true), -5);
        Due.is("it is empty then", s.told(4), 0);
        Due.is("what was written stays", s.told(5), PROOF.length());
        Due.is("a right one on the tape", Due.check(s, PROOF), 0);
        Due.is("it is empty then", s.told(4), 0);
        Due.is("what was written stays", Due.written(s), PROOF);
        // 98 times round, of 400 bytes
        String full = "2(!" + "2[0]".repeat(97) + "2[00];,.)";
        Due.is("400 bytes", full.length(), 400);
        dueCheck(s, full, RIGHT);
        dueCheck(s, full.substring(0, 399), 399);
        dueCheck(s, full.substring(0, 399) + "x", 399);
        dueCheck(s, "2(!" + "2[0]".repeat(99) + "2", 400);
        DistanceSolver t = new DistanceSolver();
        t.add(1, 3, 4);
        dueProof(t, "a-b<=2&b-c<=2&c-a<=-5", PROOF);
        Due.read(t, "a-b<=2&b-c<=2&c-a<=-4");
        Due.is("another formula", t.check(false), -1 - 15);
        t.add(1, 3, 3);
        Due.is("its constraint has another number", t.check(false), -1 - 15);
        t.prove();
        Due.is("a new proof", t.check(false), 0);
        t.clear();
        t.add(1, 3, 4);
        Due.read(t, "a-b<=2&b-c<=2&c-a<=-5");
        t.push();
        Due.is("the same proof elsewhere", Due.check(t, PROOF), 0);
        DistanceSolver u = new DistanceSolver();
        u.push();
        u.add(1, 3, 4);
        Due.read(u, "a-b<=2&b-c<=2&c-a<=-5");
        u.prove();
        u.pop(1);
        Due.is("its constraint has gone", u.check(false), -1 - 12);
        Look.asBefore("check(false), but for the fault", Look::some, v -> v.check(false), "fault");
        Look.asBefore("check(true), but for the tape", Look::some, v -> v.check(true), "fault", "tape", "tape, read", "tape, checked");
    }

    private static void checkWithoutAFormula() {
        Doc.says("Promise 20", "NO_FORMULA without one (the tape stays).");
        DistanceSolver s = new DistanceSolver();
        Due.is("an empty tape", s.check(true), NO_FORMULA);
        Due.is("nothing written", s.check(false), NO_FORMULA);
        Due.feed(s, "z=1");
        Due.is("a tape", s.check(true), NO_FORMULA);
        Due.is("it stays", s.told(4), 3);
        Due.is("what was written", s.check(false), NO_FORMULA);
        Due.is("the tape stays", s.read(), 0);
        Due.is("with a formula the tape is checked", Due.check(s, "."), 0);
        Look.asBefore("check(true) without a formula", ProofEdges::withoutFormula, t -> t.check(true));
        Look.asBefore("check(false) without a formula", ProofEdges::withoutFormula, t -> t.check(false));
    }

    private static DistanceSolver withoutFormula() {
        DistanceSolver s = new DistanceSolver();
        s.add(1, 2, 3);
        s.add(2, 1, -4);
        Due.read(s, "a$");
        Due.feed(s, "a-b<=7");
        return s;
    }

    private static void toldAnswers() {
        Doc.says("Promise 21", "Constraints (what = 0), LEVELS (1), places of THE CORE (2), ATOMS (3), bytes on the tape (4), bytes"
                + " written (5), whether there is a formula (6).");
        int[] some = {3, 2, 2, 3, 4, 11, 1};
        int[] full = {60, 20, 16, 10, 400, 11, 1};
        DistanceSolver none = new DistanceSolver();
        DistanceSolver s = Look.some();
        DistanceSolver t = Look.full();
        for (int what = 0; what < 7; what++) {
            Due.is("told(" + what + ") of nothing", none.told(what), 0);
            Due.is("told(" + what + ") of some", s.told(what), some[what]);
            Due.is("told(" + what + ") of all", t.told(what), full[what]);
            int asked = what;
            Look.asBefore("told(" + what + ")", Look::some, u -> u.told(asked));
        }
        Due.read(none, "z=0");
        Due.is("a formula without atoms", none.told(6), 1);
        Due.is("has none", none.told(3), 0);
        none.add(1, 1, -1);
        Due.is("a core of one place", none.told(2), 1);
    }

    private static void toldThrows() {
        Doc.says("Promise 21", "IllegalArgument: another what.");
        for (int what : new int[] {7, -1, LEAST, GREATEST}) {
            Due.illegal("told(" + what + ")", () -> new DistanceSolver().told(what));
            Due.illegal("told(" + what + ") of all", () -> Look.full().told(what));
            Look.asBefore("told(" + what + ")", Look::some, t -> t.told(what));
        }
    }

    private static DistanceSolver cleared(DistanceSolver s) {
        s.clear();
        return s;
    }

    private static void clears() {
        Doc.says("Promise 22", "All is as at first.");
        Look.alike("nothing, cleared", () -> cleared(new DistanceSolver()), DistanceSolver::new);
        Look.alike("some, cleared", () -> cleared(Look.some()), DistanceSolver::new);
        Look.alike("all, cleared", () -> cleared(Look.full()), DistanceSolver::new);
        Look.alike("all, cleared, and some again", () -> Look.some(cleared(Look.full())), Look::some);
        Look.alike("all, cleared, and a formula", () -> readOn(cleared(Look.full())), () -> readOn(new DistanceSolver()));
        DistanceSolver s = Look.full(cleared(Look.full()));
        Due.unsupported("all again: no room for a constraint", () -> s.add(0, 0, 0));
        Due.unsupported("all again: no room for a level", s::push);
        Due.unsupported("all again: no room on the tape", () -> s.feed(0, 1));
        DistanceSolver t = cleared(Look.full());
        Due.is("a number from 0 on", t.add(15, 0, -16), 0);
        Due.is("a first level", t.push(), 1);
        Due.is("a first byte", t.feed(0, 1), 1);
    }

    private static DistanceSolver readOn(DistanceSolver s) {
        Due.read(s, "a-b>3|c>1");
        return s;
    }
}
