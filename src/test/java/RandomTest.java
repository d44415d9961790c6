import java.util.Random;

/** Runs of calls, drawn from fixed seeds, with the answers of DistanceSolver against those of Model. */
public final class RandomTest {
    private static final int RUNS = Integer.getInteger("runs", 1500);
    private static final int CALLS = 400;

    private final Random random;
    private final DistanceSolver solver = new DistanceSolver();
    private final Model model = new Model();
    private final String name;
    /** Few variables and small numbers make rounds, many make long rows. */
    private final int variables;
    private final int size;
    private int calls = 0;

    private RandomTest(int seed) {
        random = new Random(seed);
        name = "run " + seed;
        variables = 2 + random.nextInt(random.nextInt(4) == 0 ? 15 : 5);
        size = new int[] {2, 5, 20, 1000000}[random.nextInt(4)];
    }

    public static void main(String[] args) {
        for (int seed = 0; seed < RUNS; seed++) {
            new RandomTest(seed).run();
        }
        Due.end();
    }

    private void same(String call, Due.Call got, Due.Call want) {
        calls++;
        Due.is(name + ", call " + calls + ": " + call, answer(got), answer(want));
    }

    private static String answer(Due.Call call) {
        try {
            return "" + call.run();
        } catch (RuntimeException e) {
            return e.getClass().getName();
        }
    }

    private void run() {
        while (calls < CALLS) {
            switch (random.nextInt(10)) {
                case 0, 1, 2:
                    constraints();
                    break;
                case 3, 4:
                    levels();
                    break;
                case 5:
                    questions();
                    break;
                case 6:
                    formula();
                    break;
                case 7:
                    rows();
                    break;
                case 8:
                    proofs();
                    break;
                default:
                    rest();
            }
        }
    }

    private int variable() {
        return random.nextInt(40) == 0 ? random.nextInt(40) - 12 : random.nextInt(variables);
    }

    private int number() {
        return random.nextInt(60) == 0 ? random.nextInt(3000000) - 1500000 : random.nextInt(2 * size + 1) - size;
    }

    private void constraints() {
        for (int i = random.nextInt(6); i >= 0; i--) {
            int x = variable();
            int y = variable();
            int c = number() + (random.nextBoolean() ? size / 2 : 0);
            same("add(" + x + ", " + y + ", " + c + ")", () -> solver.add(x, y, c), () -> model.add(x, y, c));
        }
        for (int i = 0; i <= solver.told(2) && random.nextInt(3) > 0; i++) {
            int place = i;
            same("core(" + i + ")", () -> solver.core(place), () -> model.core(place));
        }
    }

    private void levels() {
        if (random.nextInt(3) > 0) {
            same("push()", solver::push, model::push);
            return;
        }
        int n = random.nextInt(30) == 0 ? random.nextInt(50) - 20 : random.nextInt(3);
        same("pop(" + n + ")", () -> solver.pop(n), () -> model.pop(n));
    }

    private void questions() {
        int x = variable();
        int y = variable();
        same("value(" + x + ")", () -> solver.value(x), () -> model.value(x));
        same("bound(" + x + ", " + y + ")", () -> solver.bound(x, y), () -> model.bound(x, y));
        for (int i = random.nextInt(20) == 0 ? -1 : 0; i < 4; i++) {
            int place = i;
            same("why(" + x + ", " + y + ", " + i + ")", () -> solver.why(x, y, place), () -> model.why(x, y, place));
        }
        int k = random.nextInt(solver.told(0) + 2) - (random.nextInt(20) == 0 ? 1 : 0);
        int what = random.nextInt(10) == 0 ? random.nextInt(9) - 2 : 3 + random.nextInt(2);
        same("constraint(" + k + ", " + what + ")", () -> solver.constraint(k, what), () -> model.constraint(k, what));
    }

    // ---- texts

    private void feed(String text) {
        for (int i = 0; i < text.length(); i += 8) {
            String part = text.substring(i, Math.min(text.length(), i + 8));
            long bytes = random.nextLong();
            for (int k = 0; k < part.length(); k++) {
                bytes = bytes << 8 | part.charAt(k);
            }
            long number = bytes;
            same("feed " + part, () -> solver.feed(number, part.length()), () -> model.feed(part));
        }
    }

    private String blank() {
        return " ".repeat(random.nextInt(12) == 0 ? 1 + random.nextInt(2) : 0);
    }

    private String letter() {
        int x = random.nextInt(variables);
        return x == 0 ? "z" : "" + (char) ('a' + x - 1);
    }

    private String comparison() {
        String[] signs = {"<=", "<", ">=", ">", "=", "#"};
        StringBuilder b = new StringBuilder(letter());
        if (random.nextInt(3) > 0) {
            b.append(blank()).append('-').append(blank()).append(letter());
        }
        b.append(blank()).append(signs[random.nextInt(random.nextInt(3) == 0 ? 6 : 4)]).append(blank());
        if (random.nextInt(3) == 0) {
            b.append('-').append(blank());
        }
        return b.append(random.nextInt(size + 1)).toString();
    }

    private String formulaText(int depth) {
        int kind = depth == 0 ? 0 : random.nextInt(7);
        switch (kind) {
            case 1:
                return "~" + blank() + formulaText(depth - 1);
            case 2:
                return "(" + formulaText(depth - 1) + blank() + ")";
            case 3, 4:
                return formulaText(depth - 1) + blank() + "&" + blank() + formulaText(depth - 1);
            case 5:
                return formulaText(depth - 1) + blank() + "|" + formulaText(depth - 1);
            case 6:
                return formulaText(depth - 1) + "->" + blank() + formulaText(depth - 1);
            default:
                return comparison();
        }
    }

    private String harmed(String text, String bytes) {
        StringBuilder b = new StringBuilder(text);
        for (int i = random.nextInt(2); i >= 0; i--) {
            int place = random.nextInt(b.length() + 1);
            char c = bytes.charAt(random.nextInt(bytes.length()));
            int kind = random.nextInt(3);
            if (kind == 0 || place == b.length()) {
                b.insert(place, c);
            } else if (kind == 1) {
                b.setCharAt(place, c);
            } else {
                b.deleteCharAt(place);
            }
        }
        return b.toString();
    }

    private void formula() {
        String text = formulaText(random.nextInt(5));
        if (random.nextInt(3) == 0) {
            text = harmed(text, "abz019-<=>#&|~() $p!\u0000\u00ff");
        }
        if (random.nextInt(15) == 0) {
            String opening = new String[] {"(", "~", "a<1->", "~(", "b>2|"}[random.nextInt(5)];
            text = opening.repeat(random.nextInt(30)) + text + ")".repeat(random.nextInt(20));
        }
        if (text.length() > 240) {
            text = text.substring(0, 240);
        }
        feed(text);
        same("read " + text, solver::read, model::read);
        same("fault()", solver::fault, model::fault);
        int k = random.nextInt(solver.told(3) + 1);
        for (int i = random.nextInt(20) == 0 ? -1 : 0; i < 3; i++) {
            int what = i;
            same("atom(" + k + ", " + i + ")", () -> solver.atom(k, what), () -> model.atom(k, what));
        }
    }

    private void rows() {
        // the model tries every row anew
        if (solver.told(3) > 6 && random.nextInt(8) > 0) {
            return;
        }
        same("ways()", solver::ways, model::ways);
        int from = random.nextInt((1 << solver.told(3)) + 2) - 1;
        same("way(" + from + ")", () -> solver.way(from), () -> model.way(from));
        int row = Math.max(solver.way(from), random.nextInt(10) - 1);
        int x = variable();
        same("valueIn(" + row + ", " + x + ")", () -> solver.valueIn(row, x), () -> model.valueIn(row, x));
        int k = random.nextInt(solver.told(3) + 2) - 1;
        same("must(" + k + ")", () -> solver.must(k), () -> model.must(k));
    }

    private void proofs() {
        if (solver.told(3) > 6 && random.nextInt(8) > 0) {
            return;
        }
        same("prove()", solver::prove, model::prove);
        Due.is(name + ": proof", Due.written(solver), model.proof());
        same("check(false)", () -> solver.check(false), () -> model.check(false));
        String text = model.proof();
        if (text.isEmpty() || random.nextInt(4) == 0) {
            text = proofText(3);
        }
        if (random.nextInt(4) > 0) {
            text = harmed(text, "0012349.,;!()[]x ");
        }
        feed(text.length() > 240 ? text.substring(0, 240) : text);
        same("check " + text, () -> solver.check(true), () -> model.check(true));
        same("fault()", solver::fault, model::fault);
    }

    private String proofText(int depth) {
        int kind = random.nextInt(depth == 0 ? 2 : 4);
        if (kind == 0) {
            return ".";
        }
        int k = random.nextInt(solver.told(3) + 1);
        if (kind > 1) {
            return k + "(" + proofText(depth - 1) + "," + proofText(depth - 1) + ")";
        }
        StringBuilder b = new StringBuilder("!");
        for (int i = random.nextInt(4); i > 0; i--) {
            b.append(random.nextBoolean() ? "" + random.nextInt(3) : "[" + random.nextInt(solver.told(0) + 1) + "]");
        }
        return b.append(';').toString();
    }

    private void rest() {
        int what = random.nextInt(9) - 1;
        same("told(" + what + ")", () -> solver.told(what), () -> model.told(what));
        same("check(false)", () -> solver.check(false), () -> model.check(false));
        same("fault()", solver::fault, model::fault);
        int i = random.nextInt(30) - 1;
        same("written(" + i + ")", () -> solver.written(i), () -> model.written(i));
        if (random.nextInt(40) == 0) {
            solver.clear();
            model.clear();
        }
    }
}
