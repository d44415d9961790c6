/** Promises 18 to 22: proofs written and checked, what is told, and clear. */
public final class ProofsTest {
    private static final String ROUND = "a-b<=2&b-c<=2&c-a<=-5";

    public static void main(String[] args) {
        noProof();
        writtenProofs();
        coresOfProofs();
        rightProofs();
        wrongProofs();
        wrongRounds();
        checksTheFormulaAsItIsNow();
        tenTreesOpen();
        faultOfChecks();
        told();
        clear();
        Due.end();
    }

    private static void noProof() {
        DistanceSolver s = new DistanceSolver();
        Due.is("no formula", s.prove(), DistanceSolver.NONE);
        Due.read(s, "z=1");
        Due.is("a first proof", s.prove(), 1);
        Due.read(s, "a>0");
        Due.is("what is written stays at read()", s.told(5), 1);
        Due.is("there is a way", s.prove(), DistanceSolver.NONE);
        Due.is("nothing is written", s.told(5), 0);
        Due.index("no byte", () -> s.written(0));
        Due.is("nothing can't be a proof", s.check(false), -1);
    }

    private static void dueProof(DistanceSolver s, String text, String due) {
        Due.read(s, text);
        Due.is("ways of " + text, s.ways(), 0);
        Due.is("prove " + text, s.prove(), due.length());
        Due.is("bytes written of " + text, s.told(5), due.length());
        Due.is("the proof of " + text, Due.written(s), due);
        Due.index("behind the proof of " + text, () -> s.written(due.length()));
        Due.index("before the proof of " + text, () -> s.written(-1));
        Due.is("check it", s.check(false), 0);
        Due.is("check it from the tape", Due.check(s, due), 0);
        Due.is("no fault", s.fault(), 0);
    }

    private static void writtenProofs() {
        DistanceSolver s = new DistanceSolver();
        dueProof(s, "z=1", ".");
        dueProof(s, "z=1&a>0", ".");
        dueProof(s, "a>0&a<1", "0(.,.)");
        dueProof(s, "(a>0|b>0)&a<1&b<1", "0(1(.,.),.)");
        dueProof(s, "~(a>0->a>0)", "0(.,.)");
        dueProof(s, "~(a>0->b>0)&(a>0->b>0)", "0(.,1(.,.))");
        dueProof(s, ROUND, "0(.,1(.,2(!201;,.)))");
        dueProof(s, "a-b=2&a-b=3", "0(.,.)");
        dueProof(s, "a-b=2&a-b=4", "0(.,1(2(.,3(!30;,.)),.))");
        dueProof(s, "a-b<=2&a-b>4", "0(.,1(!10;,.))");
        dueProof(s, "a-b#2&a-b<3&a-b>1", "0(.,1(.,.))");
        s.add(1, 2, 2);
        dueProof(s, "a-b>2", "0(!0[0];,.)");
        dueProof(s, "a-b>2|b-a<-5", "0(!0[0];,1(!1[0];,.))");
    }

    private static void coresOfProofs() {
        DistanceSolver s = new DistanceSolver();
        s.add(1, 3, 5);
        dueProof(s, ROUND, "0(.,1(.,2(!201;,.)))");
        s.add(1, 3, 4);
        dueProof(s, ROUND, "0(.,1(.,2(!2[1];,.)))");
        s.add(1, 3, 3);
        dueProof(s, ROUND, "0(.,1(.,2(!2[1];,.)))");
        DistanceSolver t = new DistanceSolver();
        for (int k = 0; k < 9; k++) {
            t.add(15, 15, k);
        }
        t.add(2, 3, 2);
        dueProof(t, ROUND, "0(.,1(.,2(!20[9];,.)))");
        t.add(1, 2, 2);
        dueProof(t, ROUND, "0(.,1(.,2(!2[10][9];,.)))");
        for (int k = 11; k < 59; k++) {
            t.add(15, 15, k);
        }
        t.add(1, 3, 0);
        dueProof(t, ROUND, "0(.,1(.,2(!2[59];,.)))");
    }

    private static DistanceSolver withRound() {
        DistanceSolver s = new DistanceSolver();
        s.add(1, 3, 4);
        s.add(3, 1, -4);
        s.add(2, 2, 0);
        Due.read(s, ROUND);
        return s;
    }

    private static void dueCheck(DistanceSolver s, String proof, int place) {
        Due.is("check " + proof, Due.check(s, proof), -1 - place);
        Due.is("fault of " + proof, s.fault(), place < 0 ? 0 : 1);
        Due.is("the tape is empty behind " + proof, s.told(4), 0);
    }

    private static void rightProofs() {
        DistanceSolver s = withRound();
        int right = -1;
        dueCheck(s, "0(.,1(.,2(!201;,.)))", right);
        dueCheck(s, "0(.,1(.,2(!2[0];,.)))", right);
        dueCheck(s, "0(.,1(.,2(!2[00];,.)))", right);
        dueCheck(s, "0(.,1(.,2(![0]2;,.)))", right);
        dueCheck(s, "0(.,1(.,2(!1201[1][0]20;,.)))", right);
        dueCheck(s, "0(.,1(.,2(!2[0]2[0];,.)))", right);
        dueCheck(s, "2(0(.,1(.,!012;)),.)", right);
        dueCheck(s, "2(!2[0];,.)", right);
        dueCheck(s, "1(.,0(.,2(!2[0][1][0];,.)))", right);
    }

    private static void wrongProofs() {
        DistanceSolver s = withRound();
        dueCheck(s, "", 0);
        dueCheck(s, ".", 0);
        dueCheck(s, "x", 0);
        dueCheck(s, " .", 0);
        dueCheck(s, "(.,.)", 0);
        dueCheck(s, "3(.,.)", 0);
        dueCheck(s, "9", 0);
        dueCheck(s, "0", 1);
        dueCheck(s, "0.", 1);
        dueCheck(s, "00", 1);
        dueCheck(s, "0(", 2);
        dueCheck(s, "0()", 2);
        dueCheck(s, "0(.", 3);
        dueCheck(s, "0(.)", 3);
        dueCheck(s, "0(..", 3);
        dueCheck(s, "0(.,", 4);
        dueCheck(s, "0(.,.)", 4);
        dueCheck(s, "0(.,0(.,.))", 4);
        dueCheck(s, "0(0(.,.),.)", 2);
        dueCheck(s, "0(.,1(.,2(!2[0];,.)))x", 21);
        dueCheck(s, "0(.,1(.,2(!2[0];,.))).", 21);
        dueCheck(s, "0(.,1(.,2(!2[0];,.)", 19);
        dueCheck(s, "0(.,1(.,2(!2[0];,.))", 20);
        dueCheck(s, "0(.,1(.,2(.,.)))", 10);
        dueCheck(s, "0(.,1(.,2(!2[0];.)))", 16);
        dueCheck(s, "0(.,1(.,2(!2[0],.)))", 15);
        // the given of a tree ends with it
        dueCheck(s, "1(0(.,.),!0;)", 10);
        dueCheck(s, "1(0(.,.),0(.,.))", 13);
        dueCheck(s, "2(!2[0];,!2[0];)", 11);
    }

    private static void wrongRounds() {
        DistanceSolver s = withRound();
        dueCheck(s, "!", 1);
        dueCheck(s, "!;", 1);
        dueCheck(s, "!.", 1);
        dueCheck(s, "!3;", 1);
        dueCheck(s, "!0;", 1);
        dueCheck(s, "![", 2);
        dueCheck(s, "![]", 2);
        dueCheck(s, "![ 0]", 2);
        dueCheck(s, "![0", 3);
        dueCheck(s, "![0;", 3);
        dueCheck(s, "![[0];", 2);
        dueCheck(s, "![0[1];", 3);
        dueCheck(s, "![000];", 4);
        dueCheck(s, "![3];", 1);
        dueCheck(s, "![60];", 1);
        dueCheck(s, "![99];", 1);
        dueCheck(s, "![99;", 4);
        dueCheck(s, "![0]", 4);
        dueCheck(s, "![0];", 4);
        dueCheck(s, "![0][1];", 7);
        dueCheck(s, "![0][0];", 4);
        dueCheck(s, "![0][2];", 4);
        dueCheck(s, "![2];", 4);
        dueCheck(s, "![1][0][1]", 10);
        dueCheck(s, "0(.,!0;)", 6);
        dueCheck(s, "0(.,!00;)", 6);
        dueCheck(s, "0(.,!01;)", 6);
        dueCheck(s, "0(!0[0];,.)", 7);
        dueCheck(s, "0(.,1(.,2(!2;,.)))", 12);
        dueCheck(s, "0(.,1(.,2(!2[1];,.)))", 12);
        dueCheck(s, "0(.,1(.,2(!21;,.)))", 12);
    }

    private static void checksTheFormulaAsItIsNow() {
        DistanceSolver s = new DistanceSolver();
        s.add(5, 5, 0);
        s.push();
        s.add(1, 2, 2);
        dueProof(s, "a-b>2", "0(!0[1];,.)");
        s.pop(1);
        Due.is("its constraint has gone", s.check(false), -5);
        s.add(1, 2, 3);
        Due.is("another one is not enough", s.check(false), -8);
        s.add(1, 2, 2);
        Due.is("it has another number", s.check(false), -8);
        s.pop(0);
        Due.read(s, "a-b>3");
        Due.is("another formula", s.check(false), 0);
        Due.read(s, "a-b<=3");
        Due.is("its contrary", s.check(false), -10);
        Due.is("what is written stays", s.told(5), 11);
        Due.feed(s, "0(");
        Due.is("another check leaves the tape", s.check(false), -10);
        Due.is("it has 2 bytes", s.told(4), 2);
        Due.is("check of the tape", s.check(true), -3);
        Due.is("it is empty", s.told(4), 0);
        Due.read(s, "a-b>3");
        Due.is("a proof broken off", Due.check(s, "0(!0[1];,"), -10);
        Due.is("nothing of it is given", s.prove(), 11);
        Due.is("a proof broken off again", Due.check(s, "0("), -3);
        Due.is("nothing is given to the next one", s.check(false), 0);
        Due.is("nor to the ways", s.ways(), 0);
    }

    private static void tenTreesOpen() {
        DistanceSolver s = new DistanceSolver();
        s.add(10, 0, 0);
        Due.read(s, "a>0&b>0&c>0&d>0&e>0&f>0&g>0&h>0&i>0&j>0");
        StringBuilder open = new StringBuilder();
        for (int k = 0; k < 10; k++) {
            open.append(k).append("(.,");
        }
        String close = ")".repeat(10);
        dueCheck(s, open + "!9[0];" + close, -1);
        dueCheck(s, open + ".", 40);
        dueCheck(s, open + "0(", 40);
        dueCheck(s, open + "!9[0];" + close + ")", 56);
        dueCheck(s, open + "!9[0];" + close.substring(1), 55);
        Due.is("prove", s.prove(), 40 + 6 + 10);
        Due.is("the proof", Due.written(s), open + "!9[0];" + close);
    }

    private static void faultOfChecks() {
        DistanceSolver s = new DistanceSolver();
        Due.feed(s, "a<");
        Due.is("no formula", s.check(true), DistanceSolver.NO_FORMULA);
        Due.is("the tape stays", s.told(4), 2);
        Due.is("no fault before", s.fault(), 0);
        Due.is("read", s.read(), -3);
        Due.is("fault of read()", s.fault(), 2);
        Due.is("no formula still", s.check(false), DistanceSolver.NO_FORMULA);
        Due.is("the fault stays", s.fault(), 2);
        Due.read(s, "z=1");
        Due.is("none", s.fault(), 0);
        Due.is("a wrong proof", Due.check(s, "!"), -2);
        Due.is("fault of a proof", s.fault(), 1);
        Due.is("a right one", Due.check(s, "."), 0);
        Due.is("no fault of it", s.fault(), 0);
        Due.is("nothing written", s.check(false), -1);
        s.prove();
        Due.is("others leave it", s.fault(), 1);
        Due.is("what is written", s.check(false), 0);
        Due.is("no fault of that", s.fault(), 0);
    }

    private static void told() {
        DistanceSolver s = new DistanceSolver();
        s.push();
        s.add(1, 2, 3);
        s.push();
        s.add(2, 1, -3);
        s.add(2, 1, -3);
        s.push();
        s.push();
        s.add(2, 1, -4);
        Due.read(s, "a-b>9|a-c<2&a-c>3");
        s.prove();
        Due.feed(s, "hello");
        int[] due = {3, 4, 2, 3, 5, s.told(5), 1};
        for (int what = 0; what < due.length; what++) {
            Due.is("told(" + what + ")", s.told(what), due[what]);
        }
        Due.is("bytes written", s.told(5), Due.written(s).length());
        Due.is("they are there", s.told(5) > 0 ? 1 : 0, 1);
        Due.illegal("told(7)", () -> s.told(7));
        Due.illegal("told(-1)", () -> s.told(-1));
        Due.illegal("told(least)", () -> s.told(Integer.MIN_VALUE));
    }

    private static void clear() {
        DistanceSolver s = new DistanceSolver();
        s.add(1, 2, 3);
        s.push();
        s.add(2, 1, -4);
        dueProof(s, "a-b>3", "0(!0[0];,.)");
        Due.feed(s, "a-b");
        s.check(true);
        Due.feed(s, "a-b");
        s.clear();
        Due.is("as at first", Due.state(s), Due.state(new DistanceSolver()));
        Due.is("no ways", s.ways(), DistanceSolver.NONE);
        Due.is("no way", s.way(0), DistanceSolver.NONE);
        Due.is("no value in a row", s.valueIn(0, 0), DistanceSolver.NO);
        Due.index("no atom", () -> s.must(0));
        Due.index("no core", () -> s.core(0));
        Due.index("no byte", () -> s.written(0));
        Due.is("no proof", s.prove(), DistanceSolver.NONE);
        Due.is("no check", s.check(false), DistanceSolver.NO_FORMULA);
        Due.is("no bound", s.bound(1, 2), DistanceSolver.NO);
        Due.illegal("no level", () -> s.pop(1));
        Due.is("numbers from 0 on", s.add(2, 1, -4), 0);
        Due.is("a first level", s.push(), 1);
        Due.read(s, "a-b>3");
        Due.is("ways of what is there now", s.ways(), 1);
    }
}
