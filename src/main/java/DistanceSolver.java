import java.util.Arrays;

/**
 * Differences of whole numbers: constraints x - y <= c that come and go by levels, formulas of such
 * differences, and proofs that a formula can't be true with the constraints.
 */
public final class DistanceSolver {
    public static final int NONE = -1;
    public static final long NO = Long.MIN_VALUE;
    public static final int NO_FORMULA = -20000;

    private static final int VARIABLES = 16;
    private static final int MOST_CONSTRAINTS = 60;
    private static final int MOST_LEVELS = 20;
    private static final int MOST_NUMBER = 1000000;
    private static final int MOST_FIGURES = 7;
    private static final int MOST_ATOMS = 10;
    private static final int MOST_OPEN = 20;
    private static final int MOST_TOKENS = 100;
    private static final int TAPE_ROOM = 400;
    private static final int PROOF_ROOM = 6000;

    // 101 tokens are at most 25 comparisons of 7 codes each and the signs between them.
    private static final int CODE_ROOM = 240;
    // Every value that waits on the stack needs a comparison and a sign: 4 tokens of the 101.
    private static final int STACK_ROOM = 32;
    // 20 marks that are open, and one & and one | in each of these and outside them.
    private static final int MARKS_ROOM = 64;

    // No SUM comes near it.
    private static final long FAR = Long.MAX_VALUE;

    // In this order & is the lesser of two, | the greater one, and ~ the difference to TRUE.
    private static final int FALSE = 0;
    private static final int OPEN = 1;
    private static final int TRUE = 2;

    // Codes of a formula; what is below them is an ATOM's number.
    private static final int CODE_FALSE = 10;
    private static final int CODE_TRUE = 11;
    private static final int CODE_NOT = 12;
    private static final int CODE_AND = 13;
    private static final int CODE_OR = 14;
    private static final int CODE_IMPLIES = 15;

    // Kinds of tokens; a sign of one byte is its own kind.
    private static final int AT_MOST = 256;
    private static final int AT_LEAST = 257;
    private static final int ARROW = 258;
    private static final int VARIABLE = 259;
    private static final int NUMBER = 260;
    private static final int END = 261;
    private static final int BAD = 262;

    private static final int FAULT_BYTE = 1;
    private static final int FAULT_TOKEN = 2;
    private static final int FAULT_ATOMS = 3;
    private static final int FAULT_OPEN = 4;
    private static final int FAULT_TOKENS = 5;
    private static final int FAULT_PROOF = 1;

    private final Net net;
    private final int[] levelPlaces;
    private int levelCount;
    private final int[] coreRow;
    private int coreCount;
    private final Text tape;
    private final Text proof;
    private final Formula formula;
    private final Formula draft;
    private boolean hasFormula;
    private int lastFault;
    private final Reader reader;
    private final Table table;
    private final Writer writer;
    private final Checker checker;

    public DistanceSolver() {
        net = new Net();
        levelPlaces = new int[MOST_LEVELS];
        coreRow = new int[VARIABLES];
        tape = new Text(TAPE_ROOM);
        proof = new Text(PROOF_ROOM);
        formula = new Formula();
        draft = new Formula();
        reader = new Reader(tape, draft);
        table = new Table(formula, net);
        writer = new Writer(formula, net, proof);
        checker = new Checker(formula, net, proof);
    }

    public int add(int x, int y, int c)
            throws IndexOutOfBoundsException, IllegalArgumentException, UnsupportedOperationException {
        requireVariable(x);
        requireVariable(y);
        if (c < -MOST_NUMBER || c > MOST_NUMBER) {
            throw new IllegalArgumentException("c");
        }
        if (net.count >= MOST_CONSTRAINTS) {
            throw new UnsupportedOperationException("there are 60 constraints");
        }
        if (net.refuses(x, y, c)) {
            keepCore();
            return NONE;
        }
        net.append(x, y, c);
        table.known = false;
        return net.count - 1;
    }

    public int push() throws UnsupportedOperationException {
        if (levelCount >= MOST_LEVELS) {
            throw new UnsupportedOperationException("there are 20 levels");
        }
        levelPlaces[levelCount] = net.count;
        levelCount++;
        return levelCount;
    }

    public int pop(int n) throws IllegalArgumentException {
        if (n < 0 || n > levelCount) {
            throw new IllegalArgumentException("there are not so many levels");
        }
        if (n > 0) {
            levelCount -= n;
            net.cutTo(levelPlaces[levelCount]);
            table.known = false;
        }
        return net.count;
    }

    public int core(int place) throws IndexOutOfBoundsException {
        if (place < 0 || place >= coreCount) {
            throw new IndexOutOfBoundsException("no such place of the core");
        }
        return coreRow[place];
    }

    public long value(int x) throws IndexOutOfBoundsException {
        requireVariable(x);
        return net.valueOf(x);
    }

    public long bound(int x, int y) throws IndexOutOfBoundsException {
        requireVariable(x);
        requireVariable(y);
        long least = net.leastSum(x, y, NONE);
        return least == FAR ? NO : least;
    }

    public int why(int x, int y, int place) throws IndexOutOfBoundsException, IllegalArgumentException {
        requireVariable(x);
        requireVariable(y);
        if (place < 0) {
            throw new IllegalArgumentException("place is below 0");
        }
        long least = net.leastSum(x, y, NONE);
        if (least == FAR || !net.traceRow(x, least) || place >= net.rowLength) {
            return NONE;
        }
        return net.row[place];
    }

    public int constraint(int k, int what) throws IndexOutOfBoundsException, IllegalArgumentException {
        if (k < 0 || k >= net.count) {
            throw new IndexOutOfBoundsException("no such constraint");
        }
        switch (what) {
            case 0:
                return net.from[k];
            case 1:
                return net.to[k];
            case 2:
                return net.most[k];
            case 3:
                return net.leastSum(net.from[k], net.to[k], k) <= net.most[k] ? 1 : 0;
            case 4:
                return levelsBefore(k);
            default:
                throw new IllegalArgumentException("no such thing of a constraint");
        }
    }

    public int feed(long bytes, int n) throws IllegalArgumentException, UnsupportedOperationException {
        if (n < 1 || n > 8) {
            throw new IllegalArgumentException("n is not 1 .. 8");
        }
        if (tape.length + n > TAPE_ROOM) {
            throw new UnsupportedOperationException("the tape has 400 bytes at most");
        }
        for (int i = n - 1; i >= 0; i--) {
            tape.append((int) (bytes >>> (8 * i)) & 255);
        }
        return tape.length;
    }

    public int read() {
        lastFault = reader.readFormula();
        tape.length = 0;
        if (lastFault != 0) {
            return -1 - reader.scanner.start;
        }
        formula.copyFrom(draft);
        hasFormula = true;
        table.known = false;
        return formula.atomCount;
    }

    public int fault() {
        return lastFault;
    }

    public int atom(int k, int what) throws IndexOutOfBoundsException, IllegalArgumentException {
        requireAtom(k);
        switch (what) {
            case 0:
                return formula.lesser[k];
            case 1:
                return formula.greater[k];
            case 2:
                return formula.most[k];
            default:
                throw new IllegalArgumentException("no such thing of an atom");
        }
    }

    public int ways() {
        if (!hasFormula) {
            return NONE;
        }
        table.fill();
        return table.count;
    }

    public int way(int from) {
        if (!hasFormula) {
            return NONE;
        }
        table.fill();
        int rows = formula.rows();
        for (int row = Math.max(from, 0); row < rows; row++) {
            if (table.isWay[row]) {
                return row;
            }
        }
        return NONE;
    }

    public long valueIn(int row, int x) throws IndexOutOfBoundsException {
        requireVariable(x);
        if (!hasFormula || row < 0 || row >= formula.rows()) {
            return NO;
        }
        table.fill();
        if (!table.isWay[row]) {
            return NO;
        }
        int before = net.count;
        formula.giveRow(row);
        for (int k = 0; k < formula.atomCount; k++) {
            net.append(formula.fromOf(k), formula.toOf(k), formula.mostOf(k));
        }
        long answer = net.valueOf(x);
        net.cutTo(before);
        return answer;
    }

    public int must(int atom) throws IndexOutOfBoundsException {
        requireAtom(atom);
        table.fill();
        int trues = table.countTrue(atom);
        if (table.count == 0 || trues > 0 && trues < table.count) {
            return NONE;
        }
        return trues > 0 ? 1 : 0;
    }

    public int prove() {
        proof.length = 0;
        if (!hasFormula) {
            return NONE;
        }
        table.fill();
        if (table.count > 0 || !writer.writeProof()) {
            return NONE;
        }
        return proof.length;
    }

    public int written(int i) throws IndexOutOfBoundsException {
        if (i < 0 || i >= proof.length) {
            throw new IndexOutOfBoundsException("no such byte");
        }
        return proof.at(i);
    }

    public int check(boolean tape) {
        if (!hasFormula) {
            return NO_FORMULA;
        }
        int place = checker.findFault(tape ? this.tape : proof);
        if (tape) {
            this.tape.length = 0;
        }
        lastFault = place == NONE ? 0 : FAULT_PROOF;
        return place == NONE ? 0 : -1 - place;
    }

    public int told(int what) throws IllegalArgumentException {
        switch (what) {
            case 0:
                return net.count;
            case 1:
                return levelCount;
            case 2:
                return coreCount;
            case 3:
                return formula.atomCount;
            case 4:
                return tape.length;
            case 5:
                return proof.length;
            case 6:
                return hasFormula ? 1 : 0;
            default:
                throw new IllegalArgumentException("no such thing is told");
        }
    }

    public void clear() {
        net.cutTo(0);
        levelCount = 0;
        coreCount = 0;
        tape.length = 0;
        proof.length = 0;
        formula.makeEmpty();
        hasFormula = false;
        lastFault = 0;
        table.known = false;
    }

    private void requireVariable(int x) {
        if (x < 0 || x >= VARIABLES) {
            throw new IndexOutOfBoundsException("no such variable");
        }
    }

    private void requireAtom(int k) {
        if (k < 0 || k >= formula.atomCount) {
            throw new IndexOutOfBoundsException("no such atom");
        }
    }

    private void keepCore() {
        coreRow[0] = NONE;
        coreCount = 1;
        for (int i = 0; i < net.rowLength && coreCount < coreRow.length; i++) {
            coreRow[coreCount] = net.row[i];
            coreCount++;
        }
    }

    private int levelsBefore(int k) {
        int before = 0;
        for (int i = 0; i < levelCount; i++) {
            if (levelPlaces[i] <= k) {
                before++;
            }
        }
        return before;
    }

    private static int figureOf(int b) {
        return b >= '0' && b <= '9' ? b - '0' : NONE;
    }

    /** Bytes in a row, as many as there is room for. */
    private static final class Text {
        final byte[] bytes;
        int length;

        Text(int room) {
            bytes = new byte[room > 0 ? room : 0];
        }

        boolean append(int b) {
            if (length < 0 || length >= bytes.length) {
                return false;
            }
            bytes[length] = (byte) b;
            length++;
            return true;
        }

        /** Behind the end there is NONE, which is no byte: so no reader has to ask for the length first. */
        int at(int place) {
            return place >= 0 && place < length && place < bytes.length ? bytes[place] & 255 : NONE;
        }
    }

    /** Differences that can all be true together, in the order in which they came: no round is below 0. */
    private static final class Net {
        final int[] from = new int[MOST_CONSTRAINTS + MOST_ATOMS];
        final int[] to = new int[MOST_CONSTRAINTS + MOST_ATOMS];
        final int[] most = new int[MOST_CONSTRAINTS + MOST_ATOMS];
        int count;
        /** The row that was found latest. */
        final int[] row = new int[VARIABLES];
        int rowLength;
        /** least[k][v] is the least SUM of a row of at most k differences from v to the measured one. */
        private final long[][] least = new long[VARIABLES][VARIABLES];
        private int rounds;
        private final long[] values = new long[VARIABLES];

        void append(int x, int y, int c) {
            if (count < from.length) {
                from[count] = x;
                to[count] = y;
                most[count] = c;
                count++;
            }
        }

        void cutTo(int size) {
            if (size >= 0 && size < count) {
                count = size;
            }
        }

        /** A difference is refused by the row that closes a round below 0 with it: that is kept as found. */
        boolean refuses(int x, int y, int c) {
            measure(x, NONE);
            return traceRow(y, -1L - c);
        }

        long leastSum(int x, int y, int skipped) {
            measure(y, skipped);
            return least[rounds][x];
        }

        /**
         * Finds the row from x to the measured variable with a SUM of at most the limit that is shortest, then
         * first by its numbers. No row that is shorter is good enough, so each that is goes on with just the
         * differences that are left.
         */
        boolean traceRow(int x, long limit) {
            rowLength = 0;
            int fewest = 0;
            while (fewest <= rounds && least[fewest][x] > limit) {
                fewest++;
            }
            if (fewest > rounds) {
                return false;
            }
            int at = x;
            long rest = limit;
            for (int left = fewest - 1; left >= 0; left--) {
                int next = firstOnward(at, left, rest);
                if (next == NONE) {
                    return false;
                }
                row[rowLength] = next;
                rowLength++;
                rest -= most[next];
                at = to[next];
            }
            return true;
        }

        private int firstOnward(int at, int left, long rest) {
            for (int i = 0; i < count; i++) {
                long behind = least[left][to[i]];
                if (from[i] == at && behind != FAR && most[i] + behind <= rest) {
                    return i;
                }
            }
            return NONE;
        }

        /** Without rounds below 0 a shortest row has no variable twice: so 15 differences are enough. */
        private void measure(int target, int skipped) {
            Arrays.fill(least[0], FAR);
            least[0][target] = 0;
            rounds = 0;
            boolean better = true;
            for (int k = 1; k < VARIABLES && better; k++) {
                System.arraycopy(least[k - 1], 0, least[k], 0, VARIABLES);
                better = false;
                for (int i = 0; i < count; i++) {
                    long behind = least[k - 1][to[i]];
                    if (i != skipped && behind != FAR && most[i] + behind < least[k][from[i]]) {
                        least[k][from[i]] = most[i] + behind;
                        better = true;
                    }
                }
                rounds = k;
            }
        }

        /** The greatest solution with none above 0 is got by starting at 0 and taking off what must be. */
        long valueOf(int x) {
            Arrays.fill(values, 0L);
            boolean lower = true;
            for (int round = 0; round < VARIABLES && lower; round++) {
                lower = false;
                for (int i = 0; i < count; i++) {
                    if (values[to[i]] + most[i] < values[from[i]]) {
                        values[from[i]] = values[to[i]] + most[i];
                        lower = true;
                    }
                }
            }
            return values[x] - values[0];
        }
    }

    /** ATOMS, a formula of them as codes that follow their operands, and the truths that are given. */
    private static final class Formula {
        final int[] lesser = new int[MOST_ATOMS];
        final int[] greater = new int[MOST_ATOMS];
        final int[] most = new int[MOST_ATOMS];
        int atomCount;
        final int[] given = new int[MOST_ATOMS];
        private final int[] codes = new int[CODE_ROOM];
        private int codeCount;
        private final int[] stack = new int[STACK_ROOM];

        void makeEmpty() {
            atomCount = 0;
            codeCount = 0;
        }

        void copyFrom(Formula other) {
            atomCount = other.atomCount;
            codeCount = other.codeCount;
            System.arraycopy(other.lesser, 0, lesser, 0, MOST_ATOMS);
            System.arraycopy(other.greater, 0, greater, 0, MOST_ATOMS);
            System.arraycopy(other.most, 0, most, 0, MOST_ATOMS);
            System.arraycopy(other.codes, 0, codes, 0, CODE_ROOM);
        }

        int rows() {
            return 1 << atomCount;
        }

        void emit(int code) {
            if (codeCount < codes.length) {
                codes[codeCount] = code;
                codeCount++;
            }
        }

        /** Tells false if there would be an ATOM too many. */
        boolean emitComparison(int x, int y, int relation, int n) {
            boolean both = relation == '=' || relation == '#';
            if (both || relation == AT_MOST || relation == '>') {
                if (!emitAtMost(x, y, n)) {
                    return false;
                }
            }
            if (both || relation == '<' || relation == AT_LEAST) {
                if (!emitAtMost(x, y, n - 1)) {
                    return false;
                }
            }
            if (both) {
                emit(CODE_NOT);
                emit(CODE_AND);
            }
            if (relation == '>' || relation == AT_LEAST || relation == '#') {
                emit(CODE_NOT);
            }
            return true;
        }

        private boolean emitAtMost(int x, int y, int n) {
            if (x == y) {
                emit(0 <= n ? CODE_TRUE : CODE_FALSE);
                return true;
            }
            int number = x < y ? numberOf(x, y, n) : numberOf(y, x, -n - 1);
            if (number == NONE) {
                return false;
            }
            emit(number);
            if (x > y) {
                emit(CODE_NOT);
            }
            return true;
        }

        private int numberOf(int x, int y, int c) {
            for (int k = 0; k < atomCount; k++) {
                if (lesser[k] == x && greater[k] == y && most[k] == c) {
                    return k;
                }
            }
            if (atomCount >= MOST_ATOMS) {
                return NONE;
            }
            lesser[atomCount] = x;
            greater[atomCount] = y;
            most[atomCount] = c;
            atomCount++;
            return atomCount - 1;
        }

        void giveNothing() {
            Arrays.fill(given, OPEN);
        }

        void giveRow(int row) {
            for (int k = 0; k < atomCount; k++) {
                given[k] = (row >> (atomCount - 1 - k) & 1) == 1 ? TRUE : FALSE;
            }
        }

        int fromOf(int k) {
            return given[k] == TRUE ? lesser[k] : greater[k];
        }

        int toOf(int k) {
            return given[k] == TRUE ? greater[k] : lesser[k];
        }

        int mostOf(int k) {
            return given[k] == TRUE ? most[k] : -most[k] - 1;
        }

        /** The difference of an ATOM as it is given comes to a net, unless that refuses it. */
        boolean joins(Net net, int k) {
            if (net.refuses(fromOf(k), toOf(k), mostOf(k))) {
                return false;
            }
            net.append(fromOf(k), toOf(k), mostOf(k));
            return true;
        }

        int judge() {
            int top = 0;
            for (int i = 0; i < codeCount; i++) {
                int code = codes[i];
                if (code == CODE_NOT) {
                    if (top > 0) {
                        stack[top - 1] = TRUE - stack[top - 1];
                    }
                } else if (code >= CODE_AND) {
                    if (top > 1) {
                        stack[top - 2] = joined(code, stack[top - 2], stack[top - 1]);
                        top--;
                    }
                } else if (top < stack.length) {
                    stack[top] = leafTruth(code);
                    top++;
                }
            }
            return top > 0 ? stack[top - 1] : OPEN;
        }

        private int leafTruth(int code) {
            if (code == CODE_FALSE) {
                return FALSE;
            }
            return code >= 0 && code < MOST_ATOMS ? given[code] : TRUE;
        }

        private static int joined(int code, int first, int second) {
            if (code == CODE_AND) {
                return Math.min(first, second);
            }
            return Math.max(code == CODE_IMPLIES ? TRUE - first : first, second);
        }
    }

    /** The tokens of a text, one after another. */
    private static final class Scanner {
        private final Text text;
        private int place;
        int start;
        int kind;
        int number;

        Scanner(Text text) {
            this.text = text;
        }

        void rewind() {
            place = 0;
            start = 0;
            kind = END;
        }

        void next() {
            while (place < text.length && text.at(place) == ' ') {
                place++;
            }
            start = place;
            kind = kindHere(text.at(place));
        }

        private int kindHere(int b) {
            if (b == NONE) {
                return END;
            }
            if (figureOf(b) != NONE) {
                return scanNumber();
            }
            place++;
            switch (b) {
                case '<':
                    return follows('=') ? AT_MOST : '<';
                case '>':
                    return follows('=') ? AT_LEAST : '>';
                case '-':
                    return follows('>') ? ARROW : '-';
                case '=', '#', '&', '|', '~', '(', ')':
                    return b;
                default:
                    return scanVariable(b);
            }
        }

        private boolean follows(int b) {
            if (text.at(place) != b) {
                return false;
            }
            place++;
            return true;
        }

        private int scanVariable(int b) {
            if (b == 'z') {
                number = 0;
                return VARIABLE;
            }
            number = b - 'a' + 1;
            return b >= 'a' && b <= 'o' ? VARIABLE : BAD;
        }

        private int scanNumber() {
            number = 0;
            while (place < text.length && figureOf(text.at(place)) != NONE) {
                if (place - start < MOST_FIGURES) {
                    number = number * 10 + figureOf(text.at(place));
                }
                place++;
            }
            return place - start > MOST_FIGURES || number > MOST_NUMBER ? BAD : NUMBER;
        }
    }

    /** Reads a formula token by token; marks are the signs whose right side is not ended yet. */
    private static final class Reader {
        private static final int AT_UNIT = 0;
        private static final int BEHIND_VARIABLE = 1;
        private static final int AT_SECOND_VARIABLE = 2;
        private static final int AT_RELATION = 3;
        private static final int AT_INT = 4;
        private static final int AT_NUMBER = 5;
        private static final int BEHIND_UNIT = 6;

        final Scanner scanner;
        private final Formula goal;
        private final int[] marks = new int[MARKS_ROOM];
        private int markCount;
        private int openCount;
        private int bracketCount;
        private int state;
        private int first;
        private int second;
        private int relation;
        private boolean negative;

        Reader(Text text, Formula goal) {
            scanner = new Scanner(text);
            this.goal = goal;
        }

        /** Tells the code of the fault, 0 for none; its place is the start of the scanner's token. */
        int readFormula() {
            begin();
            for (int tokens = 1; tokens <= MOST_TOKENS + 1; tokens++) {
                scanner.next();
                if (scanner.kind == END) {
                    return finish();
                }
                int fault = take(scanner.kind);
                if (fault != 0) {
                    return fault;
                }
            }
            return FAULT_TOKENS;
        }

        private void begin() {
            scanner.rewind();
            goal.makeEmpty();
            markCount = 0;
            openCount = 0;
            bracketCount = 0;
            state = AT_UNIT;
        }

        private int finish() {
            if (state != BEHIND_UNIT || bracketCount > 0) {
                return FAULT_TOKEN;
            }
            endFormula();
            return 0;
        }

        private int take(int kind) {
            if (kind == BAD) {
                return FAULT_BYTE;
            }
            switch (state) {
                case AT_UNIT:
                    return takeUnit(kind);
                case BEHIND_UNIT:
                    return takeJoint(kind);
                case AT_INT, AT_NUMBER:
                    return takeInt(kind);
                default:
                    return takeDifference(kind);
            }
        }

        private int takeUnit(int kind) {
            if (kind == VARIABLE) {
                first = scanner.number;
                second = 0;
                negative = false;
                state = BEHIND_VARIABLE;
                return 0;
            }
            return kind == '(' || kind == '~' ? openMark(kind) : FAULT_TOKEN;
        }

        private int takeDifference(int kind) {
            if (state == AT_SECOND_VARIABLE) {
                if (kind != VARIABLE) {
                    return FAULT_TOKEN;
                }
                second = scanner.number;
                state = AT_RELATION;
                return 0;
            }
            if (kind == '-' && state == BEHIND_VARIABLE) {
                state = AT_SECOND_VARIABLE;
                return 0;
            }
            if (!isRelation(kind)) {
                return FAULT_TOKEN;
            }
            relation = kind;
            state = AT_INT;
            return 0;
        }

        private static boolean isRelation(int kind) {
            return kind == AT_MOST || kind == '<' || kind == AT_LEAST || kind == '>' || kind == '=' || kind == '#';
        }

        private int takeInt(int kind) {
            if (kind == '-' && state == AT_INT) {
                negative = true;
                state = AT_NUMBER;
                return 0;
            }
            if (kind != NUMBER) {
                return FAULT_TOKEN;
            }
            if (!goal.emitComparison(first, second, relation, negative ? -scanner.number : scanner.number)) {
                return FAULT_ATOMS;
            }
            endUnit();
            return 0;
        }

        private int takeJoint(int kind) {
            switch (kind) {
                case '&':
                    putMark('&');
                    return 0;
                case '|':
                    endEither();
                    putMark('|');
                    return 0;
                case ARROW:
                    endEither();
                    return openMark(ARROW);
                case ')':
                    return closeBracket();
                default:
                    return FAULT_TOKEN;
            }
        }

        private int openMark(int kind) {
            if (openCount >= MOST_OPEN) {
                return FAULT_OPEN;
            }
            openCount++;
            if (kind == '(') {
                bracketCount++;
            }
            putMark(kind);
            return 0;
        }

        private int closeBracket() {
            if (bracketCount == 0) {
                return FAULT_TOKEN;
            }
            endFormula();
            bracketCount--;
            openCount--;
            dropMark('(');
            endUnit();
            return 0;
        }

        private void putMark(int kind) {
            if (markCount < marks.length) {
                marks[markCount] = kind;
                markCount++;
            }
            state = AT_UNIT;
        }

        private boolean dropMark(int kind) {
            if (markCount <= 0 || marks[markCount - 1] != kind) {
                return false;
            }
            markCount--;
            return true;
        }

        /** & binds closest, so it is done as soon as its right unit is. */
        private void endUnit() {
            for (int turn = 0; turn < MARKS_ROOM && dropMark('~'); turn++) {
                openCount--;
                goal.emit(CODE_NOT);
            }
            if (dropMark('&')) {
                goal.emit(CODE_AND);
            }
            state = BEHIND_UNIT;
        }

        private void endEither() {
            if (dropMark('|')) {
                goal.emit(CODE_OR);
            }
        }

        /** -> leads to a formula, so all that are open in a formula end together with it. */
        private void endFormula() {
            endEither();
            for (int turn = 0; turn < MARKS_ROOM && dropMark(ARROW); turn++) {
                openCount--;
                goal.emit(CODE_IMPLIES);
            }
        }
    }

    /** Which rows are WAYS; it holds until a constraint or the formula changes. */
    private static final class Table {
        final boolean[] isWay = new boolean[1 << MOST_ATOMS];
        int count;
        boolean known;
        private final Formula formula;
        private final Net net;

        Table(Formula formula, Net net) {
            this.formula = formula;
            this.net = net;
        }

        void fill() {
            if (known) {
                return;
            }
            for (int row = 0; row < isWay.length; row++) {
                isWay[row] = false;
            }
            count = 0;
            formula.giveNothing();
            search(0, 0);
            known = true;
        }

        private void search(int depth, int row) {
            int truth = formula.judge();
            if (truth == FALSE || depth > formula.atomCount) {
                return;
            }
            if (depth < formula.atomCount) {
                tryTruth(depth, FALSE, 2 * row);
                tryTruth(depth, TRUE, 2 * row + 1);
                formula.given[depth] = OPEN;
            } else if (row >= 0 && row < isWay.length) {
                isWay[row] = true;
                count++;
            }
        }

        private void tryTruth(int depth, int truth, int row) {
            int before = net.count;
            formula.given[depth] = truth;
            if (formula.joins(net, depth)) {
                search(depth + 1, row);
            }
            net.cutTo(before);
        }

        int countTrue(int atom) {
            int trues = 0;
            int bit = 1 << (formula.atomCount - 1 - atom);
            for (int row = 0; row < isWay.length; row++) {
                if (isWay[row] && (row & bit) != 0) {
                    trues++;
                }
            }
            return trues;
        }
    }

    /** Writes the proof that there is no WAY. */
    private static final class Writer {
        private final Formula formula;
        private final Net net;
        private final Text text;
        private int constraintCount;
        private boolean full;

        Writer(Formula formula, Net net, Text text) {
            this.formula = formula;
            this.net = net;
            this.text = text;
        }

        /** Tells false, and leaves nothing written, if there is no room for it. */
        boolean writeProof() {
            text.length = 0;
            full = false;
            constraintCount = net.count;
            formula.giveNothing();
            writeTree(0);
            if (full) {
                text.length = 0;
            }
            return !full;
        }

        private void writeTree(int depth) {
            if (full) {
                return;
            }
            int before = net.count;
            if (formula.judge() == FALSE) {
                put('.');
            } else if (depth > 0 && !formula.joins(net, depth - 1)) {
                writeRound(depth - 1);
            } else if (depth < formula.atomCount) {
                writeBranches(depth);
            }
            net.cutTo(before);
        }

        private void writeBranches(int depth) {
            put('0' + depth);
            put('(');
            formula.given[depth] = FALSE;
            writeTree(depth + 1);
            put(',');
            formula.given[depth] = TRUE;
            writeTree(depth + 1);
            formula.given[depth] = OPEN;
            put(')');
        }

        /** The net has just refused the latest difference, so its row is the rest of the CORE. */
        private void writeRound(int latest) {
            put('!');
            put('0' + latest);
            for (int i = 0; i < net.rowLength; i++) {
                writeItem(net.row[i]);
            }
            put(';');
        }

        private void writeItem(int k) {
            if (k >= constraintCount) {
                put('0' + k - constraintCount);
                return;
            }
            put('[');
            if (k >= 10) {
                put('0' + k / 10);
            }
            put('0' + k % 10);
            put(']');
        }

        private void put(int b) {
            if (!text.append(b)) {
                full = true;
            }
        }
    }

    /** Checks a proof from the left; what tells false leaves the place at the fault. */
    private static final class Checker {
        private final Formula formula;
        private final Net net;
        private Text text;
        private int place;
        private boolean begun;
        private int begin;
        private int end;
        private long sum;

        Checker(Formula formula, Net net, Text text) {
            this.formula = formula;
            this.net = net;
            this.text = text;
        }

        /** Tells the place of the fault, NONE if the proof is right. */
        int findFault(Text proof) {
            text = proof;
            place = 0;
            formula.giveNothing();
            return passTree(0) && place == text.length ? NONE : place;
        }

        private boolean passTree(int depth) {
            int b = text.at(place);
            if (b == '.') {
                return formula.judge() == FALSE && pass('.');
            }
            if (b == '!') {
                return passRound();
            }
            return depth < MOST_ATOMS && passBranches(figureOf(b), depth);
        }

        private boolean passBranches(int k, int depth) {
            if (k < 0 || k >= formula.atomCount || formula.given[k] != OPEN) {
                return false;
            }
            place++;
            if (!pass('(')) {
                return false;
            }
            formula.given[k] = FALSE;
            if (!passTree(depth + 1) || !pass(',')) {
                return false;
            }
            formula.given[k] = TRUE;
            if (!passTree(depth + 1) || !pass(')')) {
                return false;
            }
            formula.given[k] = OPEN;
            return true;
        }

        private boolean passRound() {
            place++;
            begun = false;
            sum = 0;
            for (int items = 0; items < PROOF_ROOM && text.at(place) != ';'; items++) {
                int k = figureOf(text.at(place));
                if (k == NONE ? !passConstraint() : !passGiven(k)) {
                    return false;
                }
            }
            return begun && end == begin && sum < 0 && pass(';');
        }

        private boolean passGiven(int k) {
            if (k < 0 || k >= formula.atomCount || formula.given[k] == OPEN) {
                return false;
            }
            if (!leadOn(formula.fromOf(k), formula.toOf(k), formula.mostOf(k))) {
                return false;
            }
            place++;
            return true;
        }

        private boolean passConstraint() {
            int start = place;
            if (!pass('[')) {
                return false;
            }
            int k = figureOf(text.at(place));
            if (k == NONE) {
                return false;
            }
            place++;
            int next = figureOf(text.at(place));
            if (next != NONE) {
                k = 10 * k + next;
                place++;
            }
            if (!pass(']')) {
                return false;
            }
            if (k >= net.count || !leadOn(net.from[k], net.to[k], net.most[k])) {
                place = start;
                return false;
            }
            return true;
        }

        private boolean leadOn(int from, int to, int most) {
            if (begun && from != end) {
                return false;
            }
            if (!begun) {
                begin = from;
                begun = true;
            }
            end = to;
            sum += most;
            return true;
        }

        private boolean pass(int b) {
            if (text.at(place) != b) {
                return false;
            }
            place++;
            return true;
        }
    }
}
