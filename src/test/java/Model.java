import java.util.ArrayList;
import java.util.Arrays;
import java.util.List;

/**
 * A second solver, as plain and as slow as the document's words: closures of all distances, rows found by
 * trying them all in order, formulas as trees read by descent. RandomTest holds DistanceSolver against it.
 */
final class Model {
    private static final long FAR = Long.MAX_VALUE / 4;

    private List<int[]> constraints = new ArrayList<>();
    private List<Integer> levels = new ArrayList<>();
    private List<Integer> core = new ArrayList<>();
    private String tape = "";
    private String proof = "";
    private Node formula = null;
    private List<int[]> atoms = new ArrayList<>();
    private int fault = 0;

    // ---- constraints

    static long[][] closure(List<int[]> edges) {
        long[][] d = new long[16][16];
        for (int i = 0; i < 16; i++) {
            Arrays.fill(d[i], FAR);
            d[i][i] = 0;
        }
        for (int[] e : edges) {
            d[e[0]][e[1]] = Math.min(d[e[0]][e[1]], e[2]);
        }
        for (int k = 0; k < 16; k++) {
            for (int i = 0; i < 16; i++) {
                for (int j = 0; j < 16; j++) {
                    if (d[i][k] < FAR && d[k][j] < FAR) {
                        d[i][j] = Math.min(d[i][j], d[i][k] + d[k][j]);
                    }
                }
            }
        }
        return d;
    }

    static boolean canBe(List<int[]> edges) {
        long[][] d = closure(edges);
        for (int i = 0; i < 16; i++) {
            if (d[i][i] < 0) {
                return false;
            }
        }
        return true;
    }

    /** The first row by length, then by numbers, from x to y with a sum of at most the limit; null if there is none. */
    static List<Integer> row(List<int[]> edges, int x, int y, long limit) {
        long[][] d = closure(edges);
        for (int length = 0; length <= 15; length++) {
            List<Integer> row = new ArrayList<>();
            if (extend(edges, d, row, length, x, y, limit)) {
                return row;
            }
        }
        return null;
    }

    private static boolean extend(List<int[]> edges, long[][] d, List<Integer> row, int left, int at, int y, long rest) {
        if (d[at][y] >= FAR || d[at][y] > rest) {
            return false;
        }
        if (left == 0) {
            return at == y && rest >= 0;
        }
        for (int k = 0; k < edges.size(); k++) {
            int[] e = edges.get(k);
            if (e[0] == at) {
                row.add(k);
                if (extend(edges, d, row, left - 1, e[1], y, rest - e[2])) {
                    return true;
                }
                row.remove(row.size() - 1);
            }
        }
        return false;
    }

    private static long valueOf(List<int[]> edges, int x) {
        long[][] d = closure(edges);
        return Arrays.stream(d[x]).min().getAsLong() - Arrays.stream(d[0]).min().getAsLong();
    }

    private static void variable(int x) {
        if (x < 0 || x > 15) {
            throw new IndexOutOfBoundsException();
        }
    }

    private static <T> T at(List<T> list, int i) {
        if (i < 0 || i >= list.size()) {
            throw new IndexOutOfBoundsException();
        }
        return list.get(i);
    }

    int add(int x, int y, int c) {
        variable(x);
        variable(y);
        if (Math.abs((long) c) > 1000000) {
            throw new IllegalArgumentException();
        }
        if (constraints.size() == 60) {
            throw new UnsupportedOperationException();
        }
        List<int[]> with = new ArrayList<>(constraints);
        with.add(new int[] {x, y, c});
        if (canBe(with)) {
            constraints = with;
            return with.size() - 1;
        }
        core = new ArrayList<>(List.of(-1));
        core.addAll(row(constraints, y, x, -c - 1));
        return -1;
    }

    int push() {
        if (levels.size() == 20) {
            throw new UnsupportedOperationException();
        }
        levels.add(constraints.size());
        return levels.size();
    }

    int pop(int n) {
        if (n < 0 || n > levels.size()) {
            throw new IllegalArgumentException();
        }
        for (int i = 0; i < n; i++) {
            constraints = new ArrayList<>(constraints.subList(0, levels.remove(levels.size() - 1)));
        }
        return constraints.size();
    }

    int core(int place) {
        return at(core, place);
    }

    long value(int x) {
        variable(x);
        return valueOf(constraints, x);
    }

    long bound(int x, int y) {
        variable(x);
        variable(y);
        long d = closure(constraints)[x][y];
        return d >= FAR ? Long.MIN_VALUE : d;
    }

    int why(int x, int y, int place) {
        long bound = bound(x, y);
        if (place < 0) {
            throw new IllegalArgumentException();
        }
        List<Integer> row = bound == Long.MIN_VALUE ? List.of() : row(constraints, x, y, bound);
        return place < row.size() ? row.get(place) : -1;
    }

    int constraint(int k, int what) {
        int[] c = at(constraints, k);
        if (what < 0 || what > 4) {
            throw new IllegalArgumentException();
        }
        if (what < 3) {
            return c[what];
        }
        if (what == 4) {
            return (int) levels.stream().filter(p -> p <= k).count();
        }
        List<int[]> others = new ArrayList<>(constraints);
        others.remove(k);
        return closure(others)[c[0]][c[1]] <= c[2] ? 1 : 0;
    }

    // ---- formulas

    /** kind: d an atom, t a constant, ~ & | and > for an arrow. */
    record Node(char kind, int number, Node a, Node b) {
        /** 1 true, 0 false, -1 open. */
        int judge(int[] given) {
            switch (kind) {
                case 'd':
                    return given[number];
                case 't':
                    return number;
                case '~':
                    int j = a.judge(given);
                    return j == -1 ? -1 : 1 - j;
                case '>':
                    return new Node('|', 0, new Node('~', 0, a, null), b).judge(given);
                default:
                    int p = a.judge(given);
                    int q = b.judge(given);
                    int strong = kind == '&' ? 0 : 1;
                    return p == strong || q == strong ? strong : p == -1 || q == -1 ? -1 : 1 - strong;
            }
        }
    }

    private static final class Fault extends RuntimeException {
        private static final long serialVersionUID = 1L;
        final int code;
        final int place;

        Fault(int code, int place) {
            this.code = code;
            this.place = place;
        }
    }

    private static final class Parser {
        final String text;
        final List<int[]> atoms = new ArrayList<>();
        int place = 0;
        int tokens = 0;
        int open = 0;

        Parser(String text) {
            this.text = text;
        }

        Node all() {
            Node f = formula();
            if (!peek().isEmpty()) {
                throw new Fault(2, place);
            }
            return f;
        }

        /** The next token; "" at the end. */
        String peek() {
            while (place < text.length() && text.charAt(place) == ' ') {
                place++;
            }
            String rest = text.substring(place);
            if (rest.isEmpty()) {
                return "";
            }
            for (String sign : new String[] {"<=", ">=", "->", "<", ">", "-", "=", "#", "&", "|", "~", "(", ")"}) {
                if (rest.startsWith(sign)) {
                    return sign;
                }
            }
            String figures = rest.replaceFirst("(?s)[^0-9].*", "");
            if (!figures.isEmpty() && figures.length() <= 7 && Integer.parseInt(figures) <= 1000000) {
                return figures;
            }
            if (figures.isEmpty() && "abcdefghijklmnoz".indexOf(rest.charAt(0)) >= 0) {
                return rest.substring(0, 1);
            }
            throw new Fault(1, place);
        }

        void take(String token) {
            tokens++;
            if (tokens > 100) {
                throw new Fault(5, place);
            }
            place += token.length();
        }

        void takeOpening(String token) {
            if (open == 20) {
                throw new Fault(4, place);
            }
            open++;
            take(token);
        }

        Node formula() {
            Node left = either();
            if (!peek().equals("->")) {
                return left;
            }
            takeOpening("->");
            Node right = formula();
            open--;
            return new Node('>', 0, left, right);
        }

        Node either() {
            Node n = both();
            while (peek().equals("|")) {
                take("|");
                n = new Node('|', 0, n, both());
            }
            return n;
        }

        Node both() {
            Node n = unit();
            while (peek().equals("&")) {
                take("&");
                n = new Node('&', 0, n, unit());
            }
            return n;
        }

        Node unit() {
            String t = peek();
            if (t.equals("~")) {
                takeOpening(t);
                Node n = new Node('~', 0, unit(), null);
                open--;
                return n;
            }
            if (t.equals("(")) {
                takeOpening(t);
                Node n = formula();
                if (!peek().equals(")")) {
                    throw new Fault(2, place);
                }
                take(")");
                open--;
                return n;
            }
            return comparison();
        }

        int variable() {
            String t = peek();
            if (t.isEmpty() || !Character.isLetter(t.charAt(0))) {
                throw new Fault(2, place);
            }
            take(t);
            return t.equals("z") ? 0 : t.charAt(0) - 'a' + 1;
        }

        Node comparison() {
            int x = variable();
            int y = 0;
            if (peek().equals("-")) {
                take("-");
                y = variable();
            }
            String sign = peek();
            if (!List.of("<=", "<", ">=", ">", "=", "#").contains(sign)) {
                throw new Fault(2, place);
            }
            take(sign);
            int factor = 1;
            if (peek().equals("-")) {
                take("-");
                factor = -1;
            }
            String number = peek();
            if (number.isEmpty() || !Character.isDigit(number.charAt(0))) {
                throw new Fault(2, place);
            }
            Node n = compare(x, y, sign, factor * Integer.parseInt(number));
            take(number);
            return n;
        }

        Node compare(int x, int y, String sign, int n) {
            switch (sign) {
                case "<=":
                    return atMost(x, y, n);
                case "<":
                    return atMost(x, y, n - 1);
                case ">=":
                    return not(compare(x, y, "<", n));
                case ">":
                    return not(compare(x, y, "<=", n));
                case "=":
                    Node le = compare(x, y, "<=", n);
                    return new Node('&', 0, le, not(compare(x, y, "<", n)));
                default:
                    return not(compare(x, y, "=", n));
            }
        }

        Node atMost(int x, int y, int c) {
            if (x == y) {
                return new Node('t', 0 <= c ? 1 : 0, null, null);
            }
            return x < y ? d(x, y, c) : not(d(y, x, -c - 1));
        }

        Node d(int x, int y, int c) {
            for (int k = 0; k < atoms.size(); k++) {
                if (Arrays.equals(atoms.get(k), new int[] {x, y, c})) {
                    return new Node('d', k, null, null);
                }
            }
            if (atoms.size() == 10) {
                throw new Fault(3, place);
            }
            atoms.add(new int[] {x, y, c});
            return new Node('d', atoms.size() - 1, null, null);
        }

        static Node not(Node a) {
            return new Node('~', 0, a, null);
        }
    }

    int feed(String bytes) {
        if (tape.length() + bytes.length() > 400) {
            throw new UnsupportedOperationException();
        }
        tape += bytes;
        return tape.length();
    }

    int read() {
        Parser p = new Parser(tape);
        tape = "";
        try {
            formula = p.all();
            atoms = p.atoms;
            fault = 0;
            return atoms.size();
        } catch (Fault f) {
            fault = f.code;
            return -1 - f.place;
        }
    }

    int fault() {
        return fault;
    }

    int atom(int k, int what) {
        int[] a = at(atoms, k);
        if (what < 0 || what > 2) {
            throw new IllegalArgumentException();
        }
        return a[what];
    }

    private int[] difference(int k, int truth) {
        int[] a = atoms.get(k);
        return truth == 1 ? a : new int[] {a[1], a[0], -a[2] - 1};
    }

    private List<int[]> with(int row) {
        List<int[]> edges = new ArrayList<>(constraints);
        for (int k = 0; k < atoms.size(); k++) {
            edges.add(difference(k, truth(row, k)));
        }
        return edges;
    }

    private int truth(int row, int k) {
        return row >> (atoms.size() - 1 - k) & 1;
    }

    private boolean isWay(int row) {
        if (formula == null || row < 0 || row >= 1 << atoms.size()) {
            return false;
        }
        int[] given = new int[10];
        for (int k = 0; k < atoms.size(); k++) {
            given[k] = truth(row, k);
        }
        return formula.judge(given) == 1 && canBe(with(row));
    }

    int ways() {
        int n = 0;
        for (int row = 0; row < 1024; row++) {
            n += isWay(row) ? 1 : 0;
        }
        return formula == null ? -1 : n;
    }

    int way(int from) {
        for (int row = Math.max(0, from); row < 1024; row++) {
            if (isWay(row)) {
                return row;
            }
        }
        return -1;
    }

    long valueIn(int row, int x) {
        variable(x);
        return isWay(row) ? valueOf(with(row), x) : Long.MIN_VALUE;
    }

    int must(int atom) {
        at(atoms, atom);
        boolean[] seen = new boolean[2];
        for (int row = 0; row < 1024; row++) {
            if (isWay(row)) {
                seen[truth(row, atom)] = true;
            }
        }
        return seen[0] == seen[1] ? -1 : seen[1] ? 1 : 0;
    }

    // ---- proofs

    int prove() {
        proof = "";
        if (formula == null || way(0) >= 0) {
            return -1;
        }
        int[] given = new int[10];
        Arrays.fill(given, -1);
        String p = tree(given, 0);
        if (p.length() > 6000) {
            return -1;
        }
        proof = p;
        return p.length();
    }

    private String tree(int[] given, int depth) {
        if (formula.judge(given) == 0) {
            return ".";
        }
        List<int[]> before = new ArrayList<>(constraints);
        for (int k = 0; k < depth - 1; k++) {
            before.add(difference(k, given[k]));
        }
        if (depth > 0) {
            int[] latest = difference(depth - 1, given[depth - 1]);
            List<Integer> row = row(before, latest[1], latest[0], -latest[2] - 1);
            if (row != null) {
                return round(depth - 1, row);
            }
        }
        int[] left = given.clone();
        left[depth] = 0;
        int[] right = given.clone();
        right[depth] = 1;
        return depth + "(" + tree(left, depth + 1) + "," + tree(right, depth + 1) + ")";
    }

    private String round(int latest, List<Integer> row) {
        StringBuilder b = new StringBuilder("!").append(latest);
        for (int k : row) {
            b.append(k < constraints.size() ? "[" + k + "]" : "" + (k - constraints.size()));
        }
        return b.append(';').toString();
    }

    int written(int i) {
        if (i < 0 || i >= proof.length()) {
            throw new IndexOutOfBoundsException();
        }
        return proof.charAt(i);
    }

    int check(boolean fromTape) {
        if (formula == null) {
            return -20000;
        }
        String text = fromTape ? tape : proof;
        if (fromTape) {
            tape = "";
        }
        try {
            int[] given = new int[10];
            Arrays.fill(given, -1);
            int end = right(text, 0, given);
            if (end < text.length()) {
                throw new Fault(1, end);
            }
            fault = 0;
            return 0;
        } catch (Fault f) {
            fault = 1;
            return -1 - f.place;
        }
    }

    private static char byteAt(String text, int i) {
        return i < text.length() ? text.charAt(i) : '\uffff';
    }

    private static void demand(boolean fine, int place) {
        if (!fine) {
            throw new Fault(1, place);
        }
    }

    private int right(String text, int start, int[] given) {
        char b = byteAt(text, start);
        if (b == '.') {
            demand(formula.judge(given) == 0, start);
            return start + 1;
        }
        if (b == '!') {
            return rightRound(text, start + 1, given);
        }
        demand(b >= '0' && b <= '9' && b - '0' < atoms.size() && given[b - '0'] == -1, start);
        demand(byteAt(text, start + 1) == '(', start + 1);
        int[] inner = given.clone();
        inner[b - '0'] = 0;
        int middle = right(text, start + 2, inner);
        demand(byteAt(text, middle) == ',', middle);
        inner[b - '0'] = 1;
        int end = right(text, middle + 1, inner);
        demand(byteAt(text, end) == ')', end);
        return end + 1;
    }

    private int rightRound(String text, int start, int[] given) {
        List<int[]> round = new ArrayList<>();
        int i = start;
        while (byteAt(text, i) != ';') {
            char b = byteAt(text, i);
            int[] item;
            int end;
            if (b == '[') {
                demand(Character.isDigit(byteAt(text, i + 1)), i + 1);
                end = Character.isDigit(byteAt(text, i + 2)) ? i + 3 : i + 2;
                demand(byteAt(text, end) == ']', end);
                int k = Integer.parseInt(text.substring(i + 1, end));
                demand(k < constraints.size(), i);
                item = constraints.get(k);
                end++;
            } else {
                demand(b >= '0' && b <= '9' && b - '0' < atoms.size() && given[b - '0'] != -1, i);
                item = difference(b - '0', given[b - '0']);
                end = i + 1;
            }
            demand(round.isEmpty() || round.get(round.size() - 1)[1] == item[0], i);
            round.add(item);
            i = end;
        }
        demand(!round.isEmpty() && round.get(round.size() - 1)[1] == round.get(0)[0], i);
        demand(round.stream().mapToLong(e -> e[2]).sum() < 0, i);
        return i + 1;
    }

    int told(int what) {
        if (what < 0 || what > 6) {
            throw new IllegalArgumentException();
        }
        int[] all = {constraints.size(), levels.size(), core.size(), atoms.size(), tape.length(), proof.length(),
            formula == null ? 0 : 1};
        return all[what];
    }

    String proof() {
        return proof;
    }

    void clear() {
        constraints = new ArrayList<>();
        levels = new ArrayList<>();
        core = new ArrayList<>();
        tape = "";
        proof = "";
        formula = null;
        atoms = new ArrayList<>();
        fault = 0;
    }
}
