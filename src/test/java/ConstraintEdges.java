/** The edges of promises 1 to 9 and of '1 CONSTRAINTS' under 'Terms', sentence by sentence. */
final class ConstraintEdges {
    private static final int NONE = DistanceSolver.NONE;
    private static final long NO = DistanceSolver.NO;
    private static final int LEAST = Integer.MIN_VALUE;
    private static final int GREATEST = Integer.MAX_VALUE;
    private static final int[] NO_VARIABLES = {-1, 16, LEAST, GREATEST};

    private ConstraintEdges() {
    }

    static void all() {
        calls512();
        variables();
        zeroIsAsAnyOther();
        constraintsHaveTheirC();
        numbersFrom0On();
        levelsArePlaces();
        rows();
        roundsOfSumZeroAndBelow();
        whatIsThereCanBeTrue();
        fewestInTheCore();
        firstInTheCore();
        noRowFromXToX();
        values();
        boundIsTheLeastSum();
        whyIsTheFirst();
        idle();

        newObject();
        addAnswers();
        addThrows();
        pushAnswers();
        pushThrows();
        popAnswers();
        popThrows();
        coreAnswers();
        coreThrows();
        coreNumbersStay();
        valueAnswers();
        boundAnswers();
        whyAnswers();
        whyThrows();
        constraintAnswers();
        constraintThrows();
    }

    // ---- 1 CONSTRAINTS

    private static void calls512() {
        Doc.says("What it is", "An object is used for at most 512 calls after it has been made;");
        DistanceSolver s = new DistanceSolver();
        for (int call = 1; call <= 510; call++) {
            Due.is("call " + call, call % 2 == 1 ? s.push() : s.pop(1), call % 2);
        }
        Due.is("call 511", s.add(3, 4, 5), 0);
        Due.is("call 512", s.bound(3, 4), 5);
    }

    private static void variables() {
        Doc.says("Terms", "VARIABLES are 0 .. 15, whole numbers;");
        DistanceSolver s = new DistanceSolver();
        Due.is("add(0, 15, 0)", s.add(0, 15, 0), 0);
        Due.is("add(15, 0, 0)", s.add(15, 0, 0), 1);
        Due.read(s, "z=0");
        for (int x : new int[] {0, 1, 14, 15}) {
            Due.is("value(" + x + ")", s.value(x), 0);
            Due.is("bound(" + x + ", " + x + ")", s.bound(x, x), 0);
            Due.is("why(" + x + ", " + x + ", 0)", s.why(x, x, 0), NONE);
            Due.is("valueIn(0, " + x + ")", s.valueIn(0, x), 0);
        }
        for (int x : NO_VARIABLES) {
            Due.index("add(" + x + ", 0, 0)", () -> s.add(x, 0, 0));
            Due.index("add(0, " + x + ", 0)", () -> s.add(0, x, 0));
            Due.index("value(" + x + ")", () -> s.value(x));
            Due.index("bound(" + x + ", 0)", () -> s.bound(x, 0));
            Due.index("bound(0, " + x + ")", () -> s.bound(0, x));
            Due.index("bound(" + x + ", " + x + ")", () -> s.bound(x, x));
            Due.index("why(" + x + ", 0, 0)", () -> s.why(x, 0, 0));
            Due.index("why(0, " + x + ", 0)", () -> s.why(0, x, 0));
            Due.index("valueIn(0, " + x + ")", () -> s.valueIn(0, x));
        }
    }

    private static void zeroIsAsAnyOther() {
        Doc.says("Terms", "0 is ZERO, but as any other one in what follows.");
        DistanceSolver s = new DistanceSolver();
        Due.is("0 - 0 <= 0", s.add(0, 0, 0), 0);
        Due.is("0 - 0 <= -1", s.add(0, 0, -1), NONE);
        Due.is("0 - 5 <= -3", s.add(0, 5, -3), 1);
        Due.is("5 - 0 <= 2, a round of -1", s.add(5, 0, 2), NONE);
        Due.is("5 - 0 <= 3, a round of 0", s.add(5, 0, 3), 2);
        Due.is("a row through ZERO", s.add(7, 0, 1), 3);
        Due.is("its SUM", s.bound(7, 5), -2);
        Due.is("ZERO sinks as others do, and is told as 0", s.value(0), 0);
        Due.is("what is 3 above it", s.value(5), 3);
    }

    private static void constraintsHaveTheirC() {
        Doc.says("Terms", "A CONSTRAINT tells that x - y is c at most (c -1000000 .. 1000000); it leads from x to y.");
        DistanceSolver s = new DistanceSolver();
        Due.is("c = 1000000", s.add(3, 4, 1000000), 0);
        Due.is("c = -1000000", s.add(5, 6, -1000000), 1);
        Due.is("3 - 4 at most", s.bound(3, 4), 1000000);
        Due.is("5 - 6 at most", s.bound(5, 6), -1000000);
        Due.is("it leads from 3 to 4, not back", s.bound(4, 3), NO);
        Due.is("c is kept", s.constraint(0, 2), 1000000);
        Due.is("c below 0 is kept", s.constraint(1, 2), -1000000);
        for (int c : new int[] {1000001, -1000001, LEAST, GREATEST}) {
            Due.illegal("c = " + c, () -> s.add(3, 4, c));
        }
        Due.is("none of these is there", s.told(0), 2);
    }

    private static void numbersFrom0On() {
        Doc.says("Terms", "They are numbered as they come, from 0 on, 60 at most are there;");
        DistanceSolver s = new DistanceSolver();
        Due.index("none at first", () -> s.constraint(0, 0));
        for (int k = 0; k < 60; k++) {
            if (k == 58) {
                s.push();
            }
            Due.is("number " + k, s.add(1, 2, k), k);
        }
        Due.is("60 are there", s.told(0), 60);
        Due.is("number 59", s.constraint(59, 2), 59);
        Due.unsupported("number 60", () -> s.add(1, 2, 0));
        Due.is("two go", s.pop(1), 58);
        Due.is("number 58 again", s.add(1, 2, 7), 58);
        Due.is("number 59 again", s.add(1, 2, 8), 59);
        Due.unsupported("number 60 again", () -> s.add(1, 2, 0));
    }

    private static void levelsArePlaces() {
        Doc.says("Terms", "LEVELS, 20 at most, are places behind so many of them.");
        DistanceSolver s = new DistanceSolver();
        for (int i = 1; i <= 7; i++) {
            Due.is("a level behind no constraint", s.push(), i);
        }
        s.add(1, 2, 3);
        s.add(1, 2, 4);
        for (int i = 8; i <= 20; i++) {
            Due.is("a level behind two", s.push(), i);
        }
        Due.unsupported("a 21st", s::push);
        s.add(1, 2, 5);
        Due.is("13 of them at one place: the third one goes with the latest", s.pop(1), 2);
        Due.is("nothing more goes with the 12 others", s.pop(12), 2);
        Due.is("both go with the next one", s.pop(1), 0);
        Due.is("six are left, behind none", s.told(1), 6);
    }

    private static void rows() {
        Doc.says("Terms", "A ROW OF CONSTRAINTS leads on, each from where the one before leads to, its SUM is that of their c.");
        DistanceSolver s = new DistanceSolver();
        for (int x = 0; x < 15; x++) {
            s.add(x, x + 1, x % 2 == 0 ? 1000000 : 999999);
        }
        Due.is("a row of 15", s.bound(0, 15), 8000000L + 6999993L);
        Due.is("a row of 14", s.bound(1, 15), 7000000L + 6999993L);
        Due.is("a row of one", s.bound(14, 15), 1000000);
        Due.is("none leads back", s.bound(15, 14), NO);
        DistanceSolver t = new DistanceSolver();
        t.add(1, 2, 5);
        t.add(3, 2, 5);
        t.add(3, 4, 5);
        Due.is("what does not lead on is no row", t.bound(1, 4), NO);
    }

    private static void roundsOfSumZeroAndBelow() {
        Doc.says("Terms", "one with which they could not be is refused: a round of it, from x to y, and a row of others"
                + " from y to x has a SUM below 0.");
        DistanceSolver s = new DistanceSolver();
        Due.is("of one, SUM 0", s.add(1, 1, 0), 0);
        Due.is("of one, SUM -1", s.add(1, 1, -1), NONE);
        s.add(1, 2, -7);
        Due.is("of two, SUM -1", s.add(2, 1, 6), NONE);
        Due.is("of two, SUM 0", s.add(2, 1, 7), 2);
        DistanceSolver t = new DistanceSolver();
        for (int x = 0; x < 15; x++) {
            t.add(x, x + 1, x < 14 ? -66666 : -66676);
        }
        Due.is("of 16, SUM -1", t.add(15, 0, 999999), NONE);
        Due.is("of 16, SUM 0", t.add(15, 0, 1000000), 15);
        DistanceSolver u = new DistanceSolver();
        for (int x = 0; x < 15; x++) {
            u.add(x, x + 1, -1000000);
        }
        Due.is("of 16, SUM -14000000", u.add(15, 0, 1000000), NONE);
        Due.is("no round: the row leads the same way", u.add(0, 15, -1000000), 15);
    }

    private static void whatIsThereCanBeTrue() {
        Doc.says("Terms", "Those that are there can be true together always;");
        DistanceSolver s = new DistanceSolver();
        int refused = 0;
        for (int i = 0; i < 100 && i - refused < 60; i++) {
            refused += s.add(i * 7 % 16, i * 11 % 13, i * 5 % 19 - 8) == NONE ? 1 : 0;
        }
        Due.is("some were refused", refused > 0 ? 1 : 0, 1);
        for (int k = 0; k < s.told(0); k++) {
            long difference = s.value(s.constraint(k, 0)) - s.value(s.constraint(k, 1));
            Due.is("constraint " + k + " is true by the values", difference <= s.constraint(k, 2) ? 1 : 0, 1);
        }
    }

    private static void dueCore(DistanceSolver s, int x, int y, int c, int... row) {
        String name = "add(" + x + ", " + y + ", " + c + ")";
        Due.is(name, s.add(x, y, c), NONE);
        Due.is("places of the core of " + name, s.told(2), row.length + 1);
        Due.is("core(0) of " + name, s.core(0), NONE);
        for (int i = 0; i < row.length; i++) {
            Due.is("core(" + (i + 1) + ") of " + name, s.core(i + 1), row[i]);
        }
    }

    private static void fewestInTheCore() {
        Doc.says("Terms", "THE CORE is told then: the refused one, and a row from y to x with as few constraints as may be"
                + " such that the round is below 0,");
        DistanceSolver s = new DistanceSolver();
        s.add(2, 3, -10);
        s.add(3, 1, -10);
        s.add(2, 1, -3);
        dueCore(s, 1, 2, 2, 2);
        dueCore(s, 1, 2, 3, 0, 1);
        dueCore(s, 1, 2, 19, 0, 1);
        Due.is("SUM 0 by both", s.add(1, 2, 20), 3);
        DistanceSolver t = new DistanceSolver();
        for (int x = 0; x < 15; x++) {
            t.add(x, x + 1, -1);
        }
        dueCore(t, 15, 0, 14, 0, 1, 2, 3, 4, 5, 6, 7, 8, 9, 10, 11, 12, 13, 14);
        t.add(0, 14, -13);
        dueCore(t, 15, 0, 13, 15, 14);
        dueCore(t, 15, 0, 14, 0, 1, 2, 3, 4, 5, 6, 7, 8, 9, 10, 11, 12, 13, 14);
        t.add(1, 14, -13);
        dueCore(t, 15, 0, 14, 0, 16, 14);
    }

    private static void firstInTheCore() {
        Doc.says("Terms", "of several the first by the numbers of its first constraint, then of its second one, and so on");
        DistanceSolver s = new DistanceSolver();
        s.add(4, 1, -9);
        s.add(2, 4, 0);
        s.add(2, 3, 0);
        s.add(3, 1, -9);
        s.add(3, 1, -8);
        dueCore(s, 1, 2, 8, 1, 0);
        s.add(2, 1, -8);
        s.add(2, 1, -9);
        dueCore(s, 1, 2, 7, 5);
        dueCore(s, 1, 2, 8, 6);
        DistanceSolver t = new DistanceSolver();
        t.add(3, 1, -1);
        t.add(3, 1, -1);
        t.add(2, 3, -1);
        t.add(2, 3, -2);
        dueCore(t, 1, 2, 1, 2, 0);
        dueCore(t, 1, 2, 2, 3, 0);
        t.add(3, 1, -2);
        dueCore(t, 1, 2, 2, 2, 4);
        dueCore(t, 1, 2, 3, 3, 4);
    }

    private static void noRowFromXToX() {
        Doc.says("Terms", "(from x to x itself: none).");
        DistanceSolver s = new DistanceSolver();
        dueCore(s, 6, 6, -1);
        Due.index("nothing behind it", () -> s.core(1));
        s.add(6, 7, 0);
        s.add(7, 6, 0);
        s.add(6, 6, 0);
        dueCore(s, 6, 6, -1000000);
        Due.index("nothing behind it", () -> s.core(1));
    }

    private static void values() {
        Doc.says("Terms", "THE VALUES are the greatest of all solutions none of which is above 0; value() tells them less"
                + " that of ZERO.");
        DistanceSolver s = new DistanceSolver();
        s.add(4, 5, 3);
        Due.is("none is above 0", s.value(4), 0);
        s.add(4, 5, 0);
        Due.is("nor below it without need", s.value(4), 0);
        s.add(4, 5, -1);
        Due.is("one below another", s.value(4), -1);
        Due.is("that one is as great as may be", s.value(5), 0);
        s.add(0, 4, -1000000);
        Due.is("ZERO is at -1000001: what is at 0", s.value(5), 1000001);
        Due.is("what is at -1", s.value(4), 1000000);
        Due.is("what is free", s.value(15), 1000001);
        Due.is("ZERO", s.value(0), 0);
        DistanceSolver t = new DistanceSolver();
        for (int x = 1; x < 15; x++) {
            t.add(x + 1, x, -1000000);
        }
        t.add(1, 0, -1000000);
        Due.is("the least that may be", t.value(15), -15000000);
        t.add(0, 15, 1000000);
        Due.is("no change by what is true", t.value(15), -15000000);
        DistanceSolver u = new DistanceSolver();
        for (int x = 0; x < 15; x++) {
            u.add(x, x + 1, -1000000);
        }
        Due.is("the greatest that may be", u.value(15), 15000000);
    }

    private static void boundIsTheLeastSum() {
        Doc.says("Terms", "THE BOUND of x - y is the greatest that it may be in any solution: the least SUM of a row from x"
                + " to y (0 of x to itself), if there is one;");
        DistanceSolver s = new DistanceSolver();
        Due.is("of x to itself with nothing there", s.bound(9, 9), 0);
        Due.is("no row", s.bound(9, 8), NO);
        s.add(9, 9, 4);
        Due.is("of x to itself with 4 there", s.bound(9, 9), 0);
        s.add(9, 8, 4);
        Due.is("a row of one", s.bound(9, 8), 4);
        s.add(9, 7, -1);
        s.add(7, 8, 5);
        Due.is("one of two with the same SUM", s.bound(9, 8), 4);
        s.add(7, 8, 4);
        Due.is("one of two with a lesser SUM", s.bound(9, 8), 3);
        s.add(8, 9, -3);
        Due.is("a round of 0", s.bound(9, 9), 0);
        Due.is("round by 9", s.bound(8, 7), -4);
    }

    private static void dueWhy(DistanceSolver s, int x, int y, int... row) {
        for (int i = 0; i < row.length; i++) {
            Due.is("why(" + x + ", " + y + ", " + i + ")", s.why(x, y, i), row[i]);
        }
        Due.is("behind why(" + x + ", " + y + ")", s.why(x, y, row.length), NONE);
    }

    private static void whyIsTheFirst() {
        Doc.says("Terms", "WHY is such a row, of several one with the fewest constraints, of these the first as told.");
        DistanceSolver s = new DistanceSolver();
        s.add(1, 2, 1);
        s.add(2, 3, 1);
        s.add(1, 3, 2);
        dueWhy(s, 1, 3, 2);
        s.add(1, 3, 2);
        dueWhy(s, 1, 3, 2);
        s.add(3, 4, 0);
        s.add(1, 5, 1);
        s.add(5, 4, 1);
        dueWhy(s, 1, 4, 2, 4);
        s.add(2, 4, 0);
        dueWhy(s, 1, 4, 0, 7);
        DistanceSolver t = new DistanceSolver();
        for (int x = 14; x >= 0; x--) {
            t.add(x, x + 1, 1000000);
        }
        dueWhy(t, 0, 15, 14, 13, 12, 11, 10, 9, 8, 7, 6, 5, 4, 3, 2, 1, 0);
        dueWhy(t, 15, 0);
        dueWhy(t, 3, 3);
    }

    private static void idle() {
        Doc.says("Terms", "A constraint is IDLE if without it the bound of x - y is not above its c.");
        DistanceSolver s = new DistanceSolver();
        s.add(1, 2, 5);
        Due.is("no other bound", s.constraint(0, 3), 0);
        s.add(1, 3, 2);
        s.add(3, 2, 4);
        Due.is("one above by the others", s.constraint(0, 3), 0);
        s.add(3, 2, 3);
        Due.is("as much by the others", s.constraint(0, 3), 1);
        Due.is("its row is not idle by it", s.constraint(1, 3), 0);
        Due.is("4 is idle by 3", s.constraint(2, 3), 1);
        Due.is("3 is not by 4", s.constraint(3, 3), 0);
        s.add(1, 2, 4);
        Due.is("one below", s.constraint(0, 3), 1);
        s.add(1, 2, 4);
        Due.is("of two alike the first", s.constraint(4, 3), 1);
        Due.is("of two alike the second", s.constraint(5, 3), 1);
        s.add(8, 8, 0);
        Due.is("of x to itself", s.constraint(6, 3), 1);
        s.add(8, 9, -1000000);
        s.add(9, 8, 1000000);
        Due.is("what leads back is no row", s.constraint(7, 3), 0);
    }

    // ---- the promises

    private static void newObject() {
        Doc.says("Promise 1", "No constraints, no levels, no formula, an empty tape, nothing told or written.");
        Due.is("another object, which has nothing in common with it", Look.full().told(0), 60);
        DistanceSolver s = new DistanceSolver();
        for (int what = 0; what < 7; what++) {
            Due.is("told(" + what + ")", s.told(what), 0);
        }
        Due.index("no constraint", () -> s.constraint(0, 0));
        Due.illegal("no level", () -> s.pop(1));
        Due.is("no ways", s.ways(), NONE);
        Due.index("no atom", () -> s.atom(0, 0));
        Due.index("no atom that must be", () -> s.must(0));
        Due.is("no formula to check", s.check(true), DistanceSolver.NO_FORMULA);
        Due.index("no core", () -> s.core(0));
        Due.index("nothing written", () -> s.written(0));
        Due.is("no fault", s.fault(), 0);
        Due.is("an empty tape has no formula", s.read(), -1);
    }

    private static void addAnswers() {
        Doc.says("Promise 2", "A constraint: its number; NONE: it is refused, and THE CORE is told.");
        DistanceSolver s = new DistanceSolver();
        Due.is("the first", s.add(1, 2, 3), 0);
        Due.is("the second", s.add(2, 1, -3), 1);
        Due.index("no core is told by what comes", () -> s.core(0));
        dueCore(s, 2, 1, -4, 0);
        Due.is("the number after a refusal", s.add(2, 1, -3), 2);
        dueCore(s, 1, 2, 2, 1);
        Look.asBefore("a refusal, but for THE CORE", Look::some, t -> t.add(1, 1, -1), "core", "tape, read");
        Look.asBefore("a refusal again", Look::some, t -> t.add(2, 1, -4));
    }

    private static void addThrows() {
        Doc.says("Promise 2", "IndexOutOfBounds; IllegalArgument: c; UnsupportedOperation: there are 60.");
        DistanceSolver full = Look.full();
        for (int x : NO_VARIABLES) {
            Due.index("no variable, a wrong c, and there are 60", () -> full.add(x, 0, 1000001));
            Due.index("no second variable, a wrong c, and there are 60", () -> full.add(0, x, 1000001));
            Look.asBefore("add(" + x + ", 0, 0)", Look::some, t -> t.add(x, 0, 0));
            Look.asBefore("add(0, " + x + ", 0)", Look::some, t -> t.add(0, x, 0));
        }
        for (int c : new int[] {1000001, -1000001, LEAST, GREATEST}) {
            Due.illegal("a wrong c, and there are 60", () -> full.add(0, 0, c));
            Look.asBefore("c = " + c, Look::some, t -> t.add(0, 0, c));
        }
        Due.unsupported("there are 60", () -> full.add(0, 1, 1));
        Due.unsupported("there are 60, of x to itself", () -> full.add(4, 4, 0));
        Due.unsupported("there are 60, though it could not be", () -> full.add(4, 4, -1));
        Look.asBefore("there are 60", Look::full, t -> t.add(0, 1, 1));
        Look.asBefore("there are 60, though it could not be", Look::full, t -> t.add(4, 4, -1));
    }

    private static void pushAnswers() {
        Doc.says("Promise 3", "A LEVEL more: how many.");
        DistanceSolver s = new DistanceSolver();
        for (int i = 1; i <= 20; i++) {
            Due.is("push", s.push(), i);
            Due.is("told", s.told(1), i);
        }
        Look.asBefore("a push and a pop", Look::some, t -> {
            t.push();
            t.pop(1);
        });
    }

    private static void pushThrows() {
        Doc.says("Promise 3", "UnsupportedOperation: there are 20.");
        DistanceSolver s = new DistanceSolver();
        for (int i = 1; i <= 19; i++) {
            s.push();
        }
        Due.is("there are 19", s.push(), 20);
        Due.unsupported("there are 20", s::push);
        Due.unsupported("there are 20 still", s::push);
        Due.is("one goes", s.pop(1), 0);
        Due.is("there are 19 again", s.push(), 20);
        Look.asBefore("there are 20", Look::full, DistanceSolver::push);
    }

    private static void popAnswers() {
        Doc.says("Promise 4", "The latest n LEVELS go, with all constraints behind the first of these: how many constraints"
                + " are left.");
        DistanceSolver s = new DistanceSolver();
        Due.is("no level, none goes", s.pop(0), 0);
        s.add(1, 2, 3);
        Due.is("no level, none goes, one is left", s.pop(0), 1);
        s.push();
        Due.is("nothing is behind it", s.pop(1), 1);
        s.push();
        s.add(1, 2, 2);
        s.push();
        s.add(1, 2, 1);
        s.push();
        s.push();
        s.add(1, 2, 0);
        Due.is("none goes", s.pop(0), 4);
        Due.is("none went", s.told(1), 4);
        Due.is("three go, with two constraints", s.pop(3), 2);
        Due.is("one is left", s.told(1), 1);
        Due.is("the bound is as then", s.bound(1, 2), 2);
        Due.index("their numbers are free", () -> s.constraint(2, 0));
        Due.is("the last goes", s.pop(1), 1);
        Due.is("what was before all levels stays", s.bound(1, 2), 3);
        DistanceSolver full = Look.full();
        Due.is("all 20", full.pop(20), 0);
        Due.is("none is left", full.told(1), 0);
        DistanceSolver most = Look.full();
        Due.is("19 of 20", most.pop(19), 3);
        Due.is("one is left", most.told(1), 1);
        Look.asBefore("pop(0)", Look::some, t -> t.pop(0));
    }

    private static void popThrows() {
        Doc.says("Promise 4", "IllegalArgument: n is below 0, or there are not so many.");
        DistanceSolver s = new DistanceSolver();
        Due.illegal("there is none", () -> s.pop(1));
        DistanceSolver full = Look.full();
        Due.illegal("there are 20", () -> full.pop(21));
        for (int n : new int[] {-1, 3, LEAST, GREATEST}) {
            Due.illegal("pop(" + n + ") of 2", () -> Look.some().pop(n));
            Look.asBefore("pop(" + n + ") of 2", Look::some, t -> t.pop(n));
        }
        Due.is("pop(2) of 2", Look.some().pop(2), 1);
    }

    private static void coreAnswers() {
        Doc.says("Promise 5", "Of THE CORE of the latest add() that was refused the constraint at a place: NONE at 0 (the"
                + " refused one), its number else.");
        DistanceSolver s = new DistanceSolver();
        s.add(1, 2, -1);
        s.add(2, 3, -1);
        dueCore(s, 3, 1, 1, 0, 1);
        s.add(3, 1, 2);
        Due.is("one that was not refused leaves it", s.core(2), 1);
        dueCore(s, 2, 1, 0, 0);
        Due.index("the longer one before is gone", () -> s.core(2));
        dueCore(s, 5, 5, -1);
        Due.index("the row before is gone", () -> s.core(1));
        Due.is("15 others", Look.full().told(2), 16);
        Due.is("the last of 15", Look.full().core(15), 14);
    }

    private static void coreThrows() {
        Doc.says("Promise 5", "IndexOutOfBounds: also before any.");
        DistanceSolver s = new DistanceSolver();
        int[] places = {0, 1, -1, LEAST, GREATEST};
        for (int place : places) {
            Due.index("before any, core(" + place + ")", () -> s.core(place));
        }
        s.add(3, 3, -1);
        Due.is("place 0 of one", s.core(0), NONE);
        for (int place : new int[] {1, -1, LEAST, GREATEST}) {
            Due.index("core(" + place + ") of one", () -> s.core(place));
            Look.asBefore("core(" + place + ")", Look::some, t -> t.core(place));
        }
        Due.is("place 1 of two", Look.some().core(1), 0);
        Due.index("place 2 of two", () -> Look.some().core(2));
        Due.index("place 16 of 16", () -> Look.full().core(16));
    }

    private static void coreNumbersStay() {
        Doc.says("Promise 5", "(Numbers stay as they were then.)");
        DistanceSolver s = Look.full();
        Due.is("all go", s.pop(20), 0);
        for (int place = 1; place < 16; place++) {
            Due.is("core(" + place + ")", s.core(place), place - 1);
        }
        s.add(9, 8, 7);
        Due.is("core(1), though another is number 0 now", s.core(1), 0);
        Due.is("places", s.told(2), 16);
    }

    private static void valueAnswers() {
        Doc.says("Promise 6", "THE VALUE of a variable.");
        DistanceSolver s = new DistanceSolver();
        for (int x = 0; x < 16; x++) {
            Due.is("nothing is there, value(" + x + ")", s.value(x), 0);
        }
        s.add(0, 15, -1);
        s.add(1, 0, -1);
        Due.is("value(15)", s.value(15), 1);
        Due.is("value(1)", s.value(1), -1);
        for (int x : NO_VARIABLES) {
            Due.index("value(" + x + ")", () -> s.value(x));
            Look.asBefore("value(" + x + ")", Look::some, t -> t.value(x));
        }
        Look.asBefore("value(3)", Look::some, t -> t.value(3));
    }

    private static void boundAnswers() {
        Doc.says("Promise 7", "THE BOUND of x - y; NO without one.");
        DistanceSolver s = new DistanceSolver();
        for (int x = 0; x < 16; x++) {
            Due.is("nothing is there, bound(" + x + ", 0)", s.bound(x, 0), x == 0 ? 0 : NO);
            Due.is("nothing is there, bound(0, " + x + ")", s.bound(0, x), x == 0 ? 0 : NO);
        }
        s.push();
        s.add(15, 0, 0);
        Due.is("a bound of 0", s.bound(15, 0), 0);
        Due.is("none the other way", s.bound(0, 15), NO);
        s.pop(1);
        Due.is("without one again", s.bound(15, 0), NO);
        for (int x : NO_VARIABLES) {
            Due.index("bound(" + x + ", 1)", () -> s.bound(x, 1));
            Due.index("bound(1, " + x + ")", () -> s.bound(1, x));
            Look.asBefore("bound(" + x + ", 1)", Look::some, t -> t.bound(x, 1));
        }
        Look.asBefore("bound(1, 3)", Look::some, t -> t.bound(1, 3));
    }

    private static void whyAnswers() {
        Doc.says("Promise 8", "The constraint at a place of WHY x - y has its bound; NONE behind the last one, and without a"
                + " bound.");
        DistanceSolver s = new DistanceSolver();
        Due.is("without a bound", s.why(1, 2, 0), NONE);
        Due.is("of x to itself", s.why(1, 1, 0), NONE);
        s.add(1, 2, 3);
        s.add(2, 3, 3);
        Due.is("place 0 of one", s.why(1, 2, 0), 0);
        Due.is("place 1 of one", s.why(1, 2, 1), NONE);
        Due.is("place 0 of two", s.why(1, 3, 0), 0);
        Due.is("place 1 of two", s.why(1, 3, 1), 1);
        Due.is("place 2 of two", s.why(1, 3, 2), NONE);
        Due.is("far behind", s.why(1, 3, GREATEST), NONE);
        Due.is("far behind without a bound", s.why(3, 1, GREATEST), NONE);
        Due.is("the last of 15", Look.full().why(0, 15, 14), 14);
        Due.is("behind 15", Look.full().why(0, 15, 15), NONE);
        Due.is("behind 16", Look.full().why(0, 15, 16), NONE);
        Look.asBefore("why(1, 3, 1)", Look::some, t -> t.why(1, 3, 1));
        Look.asBefore("why(0, 15, 0)", Look::full, t -> t.why(0, 15, 0));
    }

    private static void whyThrows() {
        Doc.says("Promise 8", "IllegalArgument: place is below 0.");
        DistanceSolver s = Look.some();
        Due.is("place 0", s.why(1, 2, 0), 0);
        Due.illegal("place -1", () -> s.why(1, 2, -1));
        Due.illegal("the least place", () -> s.why(1, 2, LEAST));
        Due.illegal("place -1 without a bound", () -> s.why(9, 8, -1));
        Due.illegal("place -1 of x to itself", () -> s.why(9, 9, -1));
        Look.asBefore("place -1", Look::some, t -> t.why(1, 2, -1));
        for (int x : NO_VARIABLES) {
            Due.index("why(" + x + ", 1, -1)", () -> s.why(x, 1, -1));
            Due.index("why(1, " + x + ", -1)", () -> s.why(1, x, -1));
            Look.asBefore("why(" + x + ", 1, 0)", Look::some, t -> t.why(x, 1, 0));
        }
    }

    private static void constraintAnswers() {
        Doc.says("Promise 9", "Of a constraint x (what = 0), y (1), c (2), whether it is IDLE (3: 1 or 0), LEVELS before it"
                + " (4).");
        DistanceSolver s = new DistanceSolver();
        s.add(0, 15, -1000000);
        s.push();
        s.add(15, 0, 1000000);
        s.push();
        s.push();
        s.add(0, 15, -1000000);
        s.push();
        int[][] due = {{0, 15, -1000000, 1, 0}, {15, 0, 1000000, 0, 1}, {0, 15, -1000000, 1, 3}};
        for (int k = 0; k < due.length; k++) {
            for (int what = 0; what < 5; what++) {
                Due.is("constraint(" + k + ", " + what + ")", s.constraint(k, what), due[k][what]);
            }
        }
        s.pop(2);
        Due.index("the last has gone", () -> s.constraint(2, 4));
        Due.is("the first is not idle without it", s.constraint(0, 3), 0);
        Due.is("levels before the second, none more went", s.constraint(1, 4), 1);
        Due.is("20 levels before the last of 60", Look.full().constraint(59, 4), 20);
        Due.is("one level before the first of 60", Look.full().constraint(0, 4), 1);
        Look.asBefore("constraint(1, 3)", Look::some, t -> t.constraint(1, 3));
        Look.asBefore("constraint(59, 3)", Look::full, t -> t.constraint(59, 3));
    }

    private static void constraintThrows() {
        Doc.says("Promise 9", "IllegalArgument: another what.");
        DistanceSolver s = Look.some();
        for (int what : new int[] {5, -1, LEAST, GREATEST}) {
            Due.illegal("constraint(2, " + what + ")", () -> s.constraint(2, what));
            Due.index("constraint(3, " + what + ")", () -> s.constraint(3, what));
            Look.asBefore("constraint(2, " + what + ")", Look::some, t -> t.constraint(2, what));
        }
        for (int k : new int[] {3, -1, 60, LEAST, GREATEST}) {
            Due.index("constraint(" + k + ", 0) of 3", () -> s.constraint(k, 0));
            Due.index("constraint(" + k + ", 3) of 3", () -> s.constraint(k, 3));
            Look.asBefore("constraint(" + k + ", 3)", Look::some, t -> t.constraint(k, 3));
        }
        Due.index("constraint(60, 0) of 60", () -> Look.full().constraint(60, 0));
        Due.is("constraint(59, 2) of 60", Look.full().constraint(59, 2), 59);
    }
}
