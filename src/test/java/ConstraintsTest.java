/** Promises 1 to 9: constraints, levels, cores, values, bounds and why. */
public final class ConstraintsTest {
    public static void main(String[] args) {
        newObject();
        addNumbers();
        addRefuses();
        addThrows();
        addHasRoomFor60();
        coreIsShortThenFirst();
        coreStays();
        levels();
        values();
        bounds();
        why();
        constraints();
        Due.end();
    }

    private static void newObject() {
        DistanceSolver s = new DistanceSolver();
        for (int what = 0; what < 7; what++) {
            Due.is("new: told(" + what + ")", s.told(what), 0);
        }
        Due.is("new: fault()", s.fault(), 0);
        Due.index("new: core(0)", () -> s.core(0));
        Due.index("new: constraint(0, 0)", () -> s.constraint(0, 0));
        Due.index("new: atom(0, 0)", () -> s.atom(0, 0));
        Due.index("new: must(0)", () -> s.must(0));
        Due.index("new: written(0)", () -> s.written(0));
        Due.is("new: ways()", s.ways(), DistanceSolver.NONE);
        Due.is("new: way(0)", s.way(0), DistanceSolver.NONE);
        Due.is("new: valueIn(0, 0)", s.valueIn(0, 0), DistanceSolver.NO);
        Due.is("new: prove()", s.prove(), DistanceSolver.NONE);
        Due.is("new: check(true)", s.check(true), DistanceSolver.NO_FORMULA);
        Due.is("new: check(false)", s.check(false), DistanceSolver.NO_FORMULA);
        for (int x = 0; x < 16; x++) {
            Due.is("new: value(" + x + ")", s.value(x), 0);
            for (int y = 0; y < 16; y++) {
                Due.is("new: bound(" + x + ", " + y + ")", s.bound(x, y), x == y ? 0 : DistanceSolver.NO);
            }
        }
    }

    private static void addNumbers() {
        DistanceSolver s = new DistanceSolver();
        Due.is("add a first one", s.add(15, 0, 1000000), 0);
        Due.is("add a second one", s.add(0, 15, -1000000), 1);
        Due.is("add an alike one", s.add(0, 15, -1000000), 2);
        Due.is("add an idle one", s.add(0, 15, -999999), 3);
        Due.is("refused by one below", s.add(15, 0, 999999), DistanceSolver.NONE);
        Due.is("the number after a refusal", s.add(4, 4, 0), 4);
        Due.is("of itself below 0", s.add(4, 4, -1), DistanceSolver.NONE);
        Due.is("how many", s.told(0), 5);
    }

    private static void addRefuses() {
        DistanceSolver s = new DistanceSolver();
        for (int x = 0; x < 15; x++) {
            s.add(x, x + 1, -1000000);
        }
        Due.is("a round of 15", s.add(15, 1, 1000000), DistanceSolver.NONE);
        Due.is("its places", s.told(2), 15);
        for (int i = 1; i < 15; i++) {
            Due.is("place " + i, s.core(i), i);
        }
        Due.is("a round of 16", s.add(15, 0, 1000000), DistanceSolver.NONE);
        Due.is("places of a round of 16", s.told(2), 16);
        Due.is("its first row place", s.core(1), 0);
        Due.is("its last row place", s.core(15), 14);
        Due.index("behind it", () -> s.core(16));
        Due.is("a round of SUM 0 is no fault", s.add(1, 0, 1000000), 15);
    }

    private static void addThrows() {
        DistanceSolver s = new DistanceSolver();
        s.add(1, 2, -3);
        s.add(2, 1, 2);
        String before = Due.state(s);
        int[] wrong = {-1, 16, Integer.MIN_VALUE, Integer.MAX_VALUE};
        for (int x : wrong) {
            Due.index("add(" + x + ", 0, 0)", () -> s.add(x, 0, 0));
            Due.index("add(0, " + x + ", 0)", () -> s.add(0, x, 0));
            Due.index("add(" + x + ", 0, 9999999)", () -> s.add(x, 0, 9999999));
            Due.index("value(" + x + ")", () -> s.value(x));
            Due.index("bound(" + x + ", 0)", () -> s.bound(x, 0));
            Due.index("bound(0, " + x + ")", () -> s.bound(0, x));
            Due.index("why(" + x + ", 0, -1)", () -> s.why(x, 0, -1));
            Due.index("why(0, " + x + ", 0)", () -> s.why(0, x, 0));
            Due.index("valueIn(0, " + x + ")", () -> s.valueIn(0, x));
        }
        int[] wrongC = {-1000001, 1000001, Integer.MIN_VALUE, Integer.MAX_VALUE};
        for (int c : wrongC) {
            Due.illegal("add(1, 2, " + c + ")", () -> s.add(1, 2, c));
        }
        Due.is("as before", Due.state(s), before);
    }

    private static void addHasRoomFor60() {
        DistanceSolver s = new DistanceSolver();
        s.add(1, 1, -1);
        for (int k = 0; k < 60; k++) {
            Due.is("add number " + k, s.add(k % 16, (k + 1) % 16, k), k);
        }
        String before = Due.state(s);
        Due.unsupported("a 61st", () -> s.add(0, 1, 5));
        Due.unsupported("a 61st that could not be", () -> s.add(2, 2, -5));
        Due.illegal("a 61st with a wrong c", () -> s.add(0, 1, 1000001));
        Due.index("a 61st with a wrong variable", () -> s.add(0, 16, 0));
        Due.is("as before", Due.state(s), before);
        Due.is("the last one's c", s.constraint(59, 2), 59);
        Due.index("constraint(60, 0)", () -> s.constraint(60, 0));
    }

    private static void coreIsShortThenFirst() {
        DistanceSolver s = new DistanceSolver();
        s.add(1, 2, 0);
        s.add(2, 3, -5);
        s.add(1, 3, 0);
        s.add(1, 3, -1);
        s.add(1, 2, -1);
        s.add(2, 3, -4);
        dueCore(s, 3, 1, 0, 3);
        dueCore(s, 3, 1, 1, 0, 1);
        dueCore(s, 3, 1, 3, 0, 1);
        dueCore(s, 3, 1, 4, 0, 1);
        dueCore(s, 3, 1, 5, 4, 1);
        dueCore(s, 2, 1, -1, 0);
        dueCore(s, 2, 1, 0, 4);
        dueCore(s, 2, 2, -1);
        Due.is("what can be", s.add(3, 1, 6), 6);
    }

    private static void dueCore(DistanceSolver s, int x, int y, int c, int... row) {
        String name = "add(" + x + ", " + y + ", " + c + ")";
        Due.is(name, s.add(x, y, c), DistanceSolver.NONE);
        Due.is("places of the core of " + name, s.told(2), row.length + 1);
        Due.is("core(0) of " + name, s.core(0), DistanceSolver.NONE);
        for (int i = 0; i < row.length; i++) {
            Due.is("core(" + (i + 1) + ") of " + name, s.core(i + 1), row[i]);
        }
        Due.index("behind the core of " + name, () -> s.core(row.length + 1));
        Due.index("before the core of " + name, () -> s.core(-1));
    }

    private static void coreStays() {
        DistanceSolver s = new DistanceSolver();
        s.add(7, 7, 0);
        s.push();
        s.add(1, 2, -1);
        dueCore(s, 2, 1, 1 - 1, 1);
        s.add(2, 1, 1);
        s.why(2, 1, 0);
        s.constraint(1, 3);
        Due.read(s, "a-b>5");
        s.ways();
        s.prove();
        Due.is("core after others", s.core(1), 1);
        s.pop(1);
        Due.is("core after pop", s.core(1), 1);
        Due.is("its places after pop", s.told(2), 2);
        Due.is("the refused one can be now", s.add(2, 1, 0), 1);
        Due.is("the core is told still", s.core(1), 1);
    }

    private static void levels() {
        DistanceSolver s = new DistanceSolver();
        Due.is("pop(0) of nothing", s.pop(0), 0);
        Due.illegal("pop(1) of nothing", () -> s.pop(1));
        for (int i = 1; i <= 20; i++) {
            Due.is("push " + i, s.push(), i);
            if (i % 2 == 0) {
                s.add(i % 16, 0, 0);
            }
        }
        String before = Due.state(s);
        Due.unsupported("a 21st level", s::push);
        Due.illegal("pop(21)", () -> s.pop(21));
        Due.illegal("pop(-1)", () -> s.pop(-1));
        Due.illegal("pop(least)", () -> s.pop(Integer.MIN_VALUE));
        Due.illegal("pop(greatest)", () -> s.pop(Integer.MAX_VALUE));
        Due.is("as before", Due.state(s), before);
        Due.is("pop(0)", s.pop(0), 10);
        Due.is("levels before the first", s.constraint(0, 4), 2);
        Due.is("levels before the last", s.constraint(9, 4), 20);
        Due.is("pop(1)", s.pop(1), 9);
        Due.is("pop(1) again: nothing was behind it but what went", s.pop(1), 9);
        Due.is("pop(3)", s.pop(3), 7);
        Due.is("levels", s.told(1), 15);
        Due.is("a new one behind 15 levels", s.add(5, 6, 1), 7);
        Due.is("levels before it", s.constraint(7, 4), 15);
        Due.is("pop(15)", s.pop(15), 0);
        Due.is("no levels", s.told(1), 0);
        Due.is("push again", s.push(), 1);
    }

    private static void values() {
        DistanceSolver s = new DistanceSolver();
        s.add(1, 0, -5);
        s.add(2, 1, 3);
        s.add(3, 2, 10);
        Due.is("ZERO", s.value(0), 0);
        Due.is("below ZERO", s.value(1), -5);
        Due.is("above that", s.value(2), -2);
        Due.is("not above 0", s.value(3), 0);
        s.add(0, 4, -7);
        Due.is("ZERO has sunk", s.value(0), 0);
        Due.is("all are told less ZERO", s.value(9), 7);
        Due.is("with ZERO", s.value(1), -5);
        Due.is("with that", s.value(2), -2);
        Due.is("a bit", s.value(3), 7);
        Due.is("what sinks it", s.value(4), 7);
        s.push();
        s.add(3, 1, -100);
        Due.is("sunk", s.value(3), -105);
        s.pop(1);
        Due.is("risen again", s.value(3), 7);
        DistanceSolver deep = new DistanceSolver();
        for (int x = 15; x > 0; x--) {
            deep.add(x - 1, x, -1000000);
        }
        Due.is("15 times", deep.value(15), 15000000L);
        Due.is("14 times", deep.value(14), 14000000L);
    }

    private static void bounds() {
        DistanceSolver s = new DistanceSolver();
        for (int x = 0; x < 15; x++) {
            s.add(x, x + 1, 1000000);
        }
        Due.is("the longest row", s.bound(0, 15), 15000000L);
        Due.is("the other way", s.bound(15, 0), DistanceSolver.NO);
        s.add(15, 0, -15000000 / 15);
        Due.is("round", s.bound(15, 14), 13000000L);
        s.add(3, 9, -7);
        Due.is("a shorter way", s.bound(0, 15), 3000000L - 7 + 6000000L);
        s.add(3, 3, 5);
        Due.is("of itself", s.bound(3, 3), 0);
        Due.is("a bound below 0", s.bound(3, 9), -7);
    }

    private static void why() {
        DistanceSolver s = new DistanceSolver();
        s.add(1, 2, 1);
        s.add(2, 3, 1);
        s.add(1, 3, 3);
        dueWhy(s, 1, 3, 0, 1);
        s.add(1, 3, 2);
        dueWhy(s, 1, 3, 3);
        s.add(1, 3, 2);
        dueWhy(s, 1, 3, 3);
        s.add(4, 1, 0);
        s.add(4, 2, 1);
        s.add(3, 5, 0);
        s.add(2, 5, 1);
        dueWhy(s, 4, 5, 6, 8);
        s.add(4, 6, 0);
        s.add(6, 5, 2);
        dueWhy(s, 4, 5, 6, 8);
        s.add(4, 3, 2);
        dueWhy(s, 4, 5, 6, 8);
        dueWhy(s, 4, 4);
        dueWhy(s, 5, 4);
        Due.illegal("why(1, 3, -1)", () -> s.why(1, 3, -1));
        Due.illegal("why without a bound, -1", () -> s.why(5, 4, Integer.MIN_VALUE));
        Due.is("far behind", s.why(1, 3, Integer.MAX_VALUE), DistanceSolver.NONE);
    }

    private static void dueWhy(DistanceSolver s, int x, int y, int... row) {
        for (int i = 0; i < row.length; i++) {
            Due.is("why(" + x + ", " + y + ", " + i + ")", s.why(x, y, i), row[i]);
        }
        Due.is("behind why(" + x + ", " + y + ")", s.why(x, y, row.length), DistanceSolver.NONE);
        Due.is("far behind why(" + x + ", " + y + ")", s.why(x, y, row.length + 1), DistanceSolver.NONE);
    }

    private static void constraints() {
        DistanceSolver s = new DistanceSolver();
        s.add(1, 2, 3);
        s.push();
        s.push();
        s.add(2, 3, 4);
        s.add(1, 3, 7);
        s.push();
        s.add(1, 3, 6);
        s.add(1, 3, 6);
        s.add(5, 5, 0);
        int[][] due = {{1, 2, 3, 0, 0}, {2, 3, 4, 0, 2}, {1, 3, 7, 1, 2}, {1, 3, 6, 1, 3}, {1, 3, 6, 1, 3}, {5, 5, 0, 1, 3}};
        for (int k = 0; k < due.length; k++) {
            for (int what = 0; what < 5; what++) {
                Due.is("constraint(" + k + ", " + what + ")", s.constraint(k, what), due[k][what]);
            }
        }
        s.pop(1);
        Due.is("idle by a row of SUM 7", s.constraint(2, 3), 1);
        s.add(1, 3, 6);
        Due.is("not idle", s.constraint(3, 3), 0);
        Due.illegal("constraint(0, 5)", () -> s.constraint(0, 5));
        Due.illegal("constraint(0, -1)", () -> s.constraint(0, -1));
        Due.index("constraint(4, 0)", () -> s.constraint(4, 0));
        Due.index("constraint(-1, 9)", () -> s.constraint(-1, 9));
        Due.index("constraint(greatest, 9)", () -> s.constraint(Integer.MAX_VALUE, 9));
    }
}
