/** Pipelines of numbers, given as texts, that can be run in three ways and simplified by rules. */
public final class StreamFuser {
    public static final int NONE = -1, BAD = -2, NOT = -3, FULL = -4;

    private static final int LOST = -11, INDEX = -12, CAST = -13, STORE = -14, SIZE = -15;
    private static final int NO_INT = Integer.MIN_VALUE;
    private static final long LONG_BAD = Long.MIN_VALUE + 2;
    private static final long LONG_NOT = Long.MIN_VALUE + 3;

    private static final int ZERO_FAILURE = 1, LOST_FAILURE = 2, SPENT_FAILURE = 3, LONG_FAILURE = 4;

    private static final int MOST_BYTES = 40;
    // Each node has a byte of its own in the text, and the rules make no new nodes.
    private static final int MOST_NODES = MOST_BYTES;
    // A node within n others stands behind at least n bytes.
    private static final int MOST_LEVELS = MOST_BYTES;
    private static final int MOST_RESULTS = 40;
    private static final int MOST_PAIRS = 40;
    private static final int MOST_DRAWN = 500;
    private static final int SHEETS = 4;
    private static final int FORMS = 3;
    private static final int MOST_ELEMENTS = 60;
    private static final int RULES = 13;
    // Far above what 500 drawn numbers and 40 nodes can need.
    private static final int MOST_TURNS = 1000000;

    private static final int BACK_MODE = 1;
    private static final int BY_ASKING = 0, BY_STEPS = 1, BY_ARRAYS = 2;

    private final Plan main;
    private final Printer printer;
    private final Rewriter rewriter;
    private final Sheets sheets;
    private final Run latest;
    private final Asker asker;
    private final Stepper stepper;
    private final Maker maker;

    // The draft takes what must not touch the plan: a text not yet known to be a pipe, and the trials of saves().
    private final Plan draft;
    private final Reader reader;
    private final Rewriter draftRewriter;
    private final Run trial;
    private final Asker trialAsker;

    private int finding;

    public StreamFuser() {
        main = new Plan();
        printer = new Printer(main);
        rewriter = new Rewriter(main);
        sheets = new Sheets();
        latest = new Run();
        asker = new Asker(main, latest, sheets);
        stepper = new Stepper(main, latest, sheets);
        maker = new Maker(main, latest, sheets);
        draft = new Plan();
        reader = new Reader(draft);
        draftRewriter = new Rewriter(draft);
        trial = new Run();
        trialAsker = new Asker(draft, trial, sheets);
    }

    public int type(int b) {
        if (b < 0 || b > 255) return BAD;
        return reader.append(b) ? reader.length : FULL;
    }

    public int wipe() {
        int had = reader.length;
        reader.length = 0;
        return had;
    }

    public int fault() {
        return reader.read();
    }

    public int plan() {
        int found = reader.read();
        if (found != NONE) return -1000 - found;
        main.takeFrom(draft);
        printer.print();
        return main.size;
    }

    public int node(int k, int what) {
        if (!main.has(k)) return NO_INT;
        switch (what) {
            case 0: return main.letter[k];
            case 1: return main.mark[k];
            case 2: return main.first[k];
            case 3: return main.second[k];
            case 4: return main.within[k];
            case 5: return main.pure[k] ? 1 : 0;
            default: return NO_INT;
        }
    }

    public int text(int n) {
        if (main.size == 0) return BAD;
        if (n == NONE) return printer.length;
        return n >= 0 && n < printer.length ? printer.bytes[n] : BAD;
    }

    public int tidy(int how) {
        if (how < 0 || how > 1) return BAD;
        if (main.size == 0) return NOT;
        rewriter.simplify(how == BACK_MODE);
        printer.print();
        return rewriter.total;
    }

    public int rules(int k) {
        return k >= 0 && k < RULES ? rewriter.applied[k] : BAD;
    }

    public int saves(int limit) {
        if (limit < 0 || limit > MOST_RESULTS || main.size == 0) return NO_INT;
        draft.takeFrom(main);
        trialAsker.play(limit);
        int before = trial.drawn;
        draftRewriter.simplify(false);
        trialAsker.play(limit);
        return before - trial.drawn;
    }

    public int run(int way, int limit) {
        if (way < BY_ASKING || way > BY_ARRAYS || limit < 0 || limit > MOST_RESULTS) return BAD;
        if (main.size == 0 || way == BY_ARRAYS && main.endless) return NOT;
        if (way == BY_ASKING) asker.play(limit);
        else if (way == BY_STEPS) stepper.play(limit);
        else maker.play(limit);
        return latest.size;
    }

    public long result(int i) {
        return i >= 0 && i < latest.size ? latest.numbers[i] : LONG_BAD;
    }

    public long fold(int what) {
        if (what < 0 || what > 2) return LONG_BAD;
        if (what == 0) return latest.sum();
        if (latest.size == 0) return LONG_NOT;
        return what == 1 ? latest.greatest() : latest.smallest();
    }

    public int failure(int what) {
        if (what < 0 || what > 1) return BAD;
        return what == 0 ? latest.failure : latest.failureDepth;
    }

    public int told(int what) {
        switch (what) {
            case 0: return latest.drawn;
            case 1: return latest.work;
            case 2: return latest.elements;
            case 3: return latest.pairs;
            default: return BAD;
        }
    }

    public long written(int i, int what) {
        if (i < 0 || i >= latest.kept() || what < 0 || what > 1) return LONG_BAD;
        return what == 0 ? latest.digits[i] : latest.notes[i];
    }

    public int sheet(int s, int form, int n) {
        if (!isSheet(s) || !isForm(form) || n > MOST_ELEMENTS) return BAD;
        if (n < 0) return find(SIZE);
        sheets.renew(s, form, n);
        return n;
    }

    public int lose(int s) {
        if (!isSheet(s)) return BAD;
        if (sheets.isLost(s)) return find(LOST);
        int had = sheets.length[s];
        sheets.length[s] = NONE;
        return had;
    }

    public int lay(int s, int form, int i, int v) {
        int error = elementError(s, form, i);
        if (error == BAD) return BAD;
        if (error != 0) return find(error);
        sheets.store(s, i, v);
        return 1;
    }

    public int get(int s, int form, int i) {
        int error = elementError(s, form, i);
        if (error == 0) return sheets.at(s, i);
        if (error != BAD) find(error);
        return NO_INT;
    }

    public int copy(int s, int i, int t, int j, int n) {
        if (!isSheet(s) || !isSheet(t)) return BAD;
        if (sheets.isLost(s) || sheets.isLost(t)) return find(LOST);
        if (sheets.form[s] != sheets.form[t]) return find(STORE);
        if (!sheets.hasPart(s, i, n) || !sheets.hasPart(t, j, n)) return find(INDEX);
        sheets.move(s, i, t, j, n);
        return 1;
    }

    public int write(int s) {
        if (!isSheet(s)) return BAD;
        if (sheets.isLost(s)) return find(LOST);
        int n = Math.min(sheets.length[s], latest.size);
        for (int i = 0; i < n; i++) sheets.store(s, i, latest.numbers[i]);
        return n;
    }

    public int count(int what) {
        switch (what) {
            case 0: return main.size;
            case 1: return reader.length;
            case 2: return latest.size;
            case 3: return latest.failure;
            case 4: return latest.pairs;
            case 5: return latest.drawn;
            case 6: return rewriter.total;
            case 7: return main.deepest;
            case 8: return finding;
            default: return BAD;
        }
    }

    public long digest() {
        long hash = 17;
        for (int what = 0; what <= 7; what++) hash = 31 * hash + count(what);
        hash = 31 * hash + fault();
        hash = mixPlan(hash);
        for (int k = 0; k < RULES; k++) hash = 31 * hash + rules(k);
        hash = mixRun(hash);
        return 31 * hash + saves(3);
    }

    private long mixPlan(long start) {
        long hash = start;
        for (int k = 0; k < main.size; k++) {
            for (int what = 0; what <= 5; what++) hash = 31 * hash + node(k, what);
        }
        hash = 31 * hash + text(NONE);
        if (main.size == 0) return hash;
        for (int n = 0; n < printer.length; n++) hash = 31 * hash + text(n);
        return hash;
    }

    private long mixRun(long start) {
        long hash = start;
        for (int i = 0; i < latest.size; i++) hash = 31 * hash + result(i);
        for (int what = 0; what <= 2; what++) hash = 31 * hash + fold(what);
        for (int what = 0; what <= 1; what++) hash = 31 * hash + failure(what);
        for (int what = 0; what <= 3; what++) hash = 31 * hash + told(what);
        for (int i = 0; i < latest.kept(); i++) {
            for (int what = 0; what <= 1; what++) hash = 31 * hash + written(i, what);
        }
        return hash;
    }

    private int find(int error) {
        finding = -10 - error;
        return error;
    }

    private int elementError(int s, int form, int i) {
        if (!isSheet(s) || !isForm(form)) return BAD;
        if (sheets.isLost(s)) return LOST;
        if (sheets.form[s] != form) return CAST;
        return sheets.hasElement(s, i) ? 0 : INDEX;
    }

    private static boolean isSheet(int s) {
        return s >= 0 && s < SHEETS;
    }

    private static boolean isForm(int form) {
        return form >= 0 && form < FORMS;
    }

    /** A pipe: its nodes in the order of the text, so that what is within a node follows it at once. */
    private static final class Plan {
        private final int[] letter = new int[MOST_NODES];
        private final int[] mark = new int[MOST_NODES];
        private final int[] first = new int[MOST_NODES];
        private final int[] second = new int[MOST_NODES];
        private int size;

        // What measure() finds: the index behind the last node within, how many nodes and how many x with
        // their Q it is within, the innermost x in whose Q it stands, and whether it is pure.
        private final int[] end = new int[MOST_NODES];
        private final int[] within = new int[MOST_NODES];
        private final int[] nested = new int[MOST_NODES];
        private final int[] opener = new int[MOST_NODES];
        private final boolean[] pure = new boolean[MOST_NODES];
        private int deepest = NONE;
        private boolean endless;

        private static int partsOf(int letter) {
            switch (letter) {
                case '+': case '*': case '/': case '%': case 'l':
                case '?': case 'k': case 'w': case 't': case 'd': return 1;
                case 'c': case 'z': case 'x': return 2;
                default: return 0;
            }
        }

        private static int numbersOf(int letter) {
            switch (letter) {
                case '+': case '*': case '/': case '%':
                case '?': case 'k': case 'w': case 't': case 'd': return 1;
                case 'r': case 'i': return 2;
                default: return 0;
            }
        }

        private boolean has(int k) {
            return k >= 0 && k < size;
        }

        private int letterAt(int k) {
            return k >= 0 && k < size ? letter[k] : NONE;
        }

        private boolean isNil(int k) {
            return has(k) && letter[k] == 'r' && first[k] == 0 && second[k] == 0;
        }

        /** The index of the second pipe of c, z or x. */
        private int secondPart(int k) {
            return k >= 0 && k + 1 < size ? end[k + 1] : size;
        }

        /** The index of the pipe that the document calls P. */
        private int input(int k) {
            return letterAt(k) == 'x' ? secondPart(k) : k + 1;
        }

        private void add(int sign, int signMark, int a, int b) {
            if (size >= MOST_NODES) return;
            letter[size] = sign;
            mark[size] = signMark;
            first[size] = a;
            second[size] = b;
            size++;
        }

        private void takeFrom(Plan other) {
            size = 0;
            for (int k = 0; k < other.size; k++) {
                add(other.letter[k], other.mark[k], other.first[k], other.second[k]);
            }
            measure();
        }

        private void swapWithNext(int k) {
            if (!has(k) || !has(k + 1)) return;
            int sign = letter[k];
            int signMark = mark[k];
            int a = first[k];
            int b = second[k];
            moveNode(k + 1, k);
            letter[k + 1] = sign;
            mark[k + 1] = signMark;
            first[k + 1] = a;
            second[k + 1] = b;
        }

        /** Takes out the nodes from one index to before another one. */
        private void cut(int from, int to) {
            if (from < 0 || to < from || to > size) return;
            for (int k = to; k < size; k++) moveNode(k, from + k - to);
            size -= to - from;
        }

        private void moveNode(int from, int to) {
            letter[to] = letter[from];
            mark[to] = mark[from];
            first[to] = first[from];
            second[to] = second[from];
        }

        private void makeNil(int k) {
            if (!has(k)) return;
            letter[k] = 'r';
            mark[k] = NONE;
            first[k] = 0;
            second[k] = 0;
            cut(k + 1, end[k]);
        }

        private void measure() {
            for (int k = size - 1; k >= 0; k--) measureFromParts(k);
            deepest = NONE;
            endless = false;
            if (size > 0) {
                within[0] = 0;
                nested[0] = 0;
                opener[0] = NONE;
            }
            for (int k = 0; k < size; k++) {
                measureParts(k);
                deepest = Math.max(deepest, within[k]);
                if (letter[k] == 'i') endless = true;
            }
        }

        private void measureFromParts(int k) {
            int parts = partsOf(letter[k]);
            int part = k + 1;
            boolean clean = letter[k] != '/' && letter[k] != 'l' && letter[k] != 's';
            for (int i = 0; i < parts && part < size; i++) {
                clean = clean && pure[part];
                part = end[part];
            }
            end[k] = part;
            pure[k] = clean;
        }

        private void measureParts(int k) {
            int parts = partsOf(letter[k]);
            int part = k + 1;
            for (int i = 0; i < parts && part < size; i++) {
                boolean opened = letter[k] == 'x' && i == 0;
                within[part] = within[k] + 1;
                nested[part] = opened ? nested[k] + 1 : nested[k];
                opener[part] = opened ? k : opener[k];
                part = end[part];
            }
        }
    }

    /** The text, and how it is read as a pipe, byte by byte, up to the first one that no pipe can have there. */
    private static final class Reader {
        private final Plan target;
        private final int[] bytes = new int[MOST_BYTES];
        private int length;
        // For each pipe that is still due, the last one first: in how many Q of x it stands.
        private final int[] due = new int[MOST_BYTES + 1];
        private int dues;
        private int at;
        private int fault;

        private Reader(Plan target) {
            this.target = target;
        }

        private boolean append(int b) {
            if (length >= MOST_BYTES) return false;
            bytes[length] = b;
            length++;
            return true;
        }

        /** Makes the target the pipe of the text, or gives the fault. */
        private int read() {
            target.size = 0;
            at = 0;
            fault = NONE;
            dues = 0;
            expect(0);
            for (int turn = 0; turn <= MOST_BYTES && dues > 0 && fault == NONE; turn++) readNode();
            if (fault == NONE && at < length) fault = at;
            return fault;
        }

        private void expect(int inside) {
            if (dues > MOST_BYTES) return;
            due[dues] = inside;
            dues++;
        }

        private void readNode() {
            if (dues <= 0) return;
            dues--;
            int inside = due[dues];
            int letter = peek();
            accept(isLetter(letter, inside));
            int mark = hasMark(letter) ? readMark(letter) : NONE;
            int numbers = Plan.numbersOf(letter);
            int first = numbers > 0 ? readNumber(letter) : 0;
            int second = numbers > 1 ? readNumber(letter) : 0;
            if (fault != NONE) return;
            target.add(letter, mark, first, second);
            expectParts(letter, inside);
        }

        private void expectParts(int letter, int inside) {
            int parts = Plan.partsOf(letter);
            if (parts > 1) expect(inside);
            if (parts > 0) expect(letter == 'x' ? inside + 1 : inside);
        }

        private int peek() {
            return at >= 0 && at < length ? bytes[at] : NONE;
        }

        /** Goes behind a byte that fits; for one that doesn't, and behind the last one, this index is the fault. */
        private void accept(boolean fits) {
            if (fault != NONE) return;
            if (fits && at < length) at++;
            else fault = at;
        }

        private static boolean isLetter(int b, int inside) {
            if (b == 'u' || b == 'v') return inside > 0;
            return b == 's' || Plan.partsOf(b) > 0 || Plan.numbersOf(b) > 0;
        }

        private static boolean hasMark(int letter) {
            return letter == '?' || letter == 'w' || letter == 'z' || hasDigit(letter);
        }

        private static boolean hasDigit(int letter) {
            return letter == 's' || letter == 'l';
        }

        private int readMark(int letter) {
            int b = peek();
            accept(fitsMark(letter, b));
            return hasDigit(letter) ? b - '0' : b;
        }

        private static boolean fitsMark(int letter, int b) {
            switch (letter) {
                case 's': return b >= '0' && b <= '3';
                case 'l': return isDigit(b);
                case 'z': return b == '+' || b == '*' || b == '<';
                default: return b == '<' || b == '>' || b == '=';
            }
        }

        private static boolean isDigit(int b) {
            return b >= '0' && b <= '9';
        }

        private int readNumber(int letter) {
            boolean small = letter == 't' || letter == 'd';
            boolean whole = letter == '%' || letter == 'k';
            boolean negative = !small && !whole && peek() == '-';
            if (negative) accept(true);
            int value = peek() - '0';
            accept(isDigit(peek()) && (value > 0 || !negative && !whole));
            int most = small ? 99 : 9999;
            for (int i = 0; i < 4 && fault == NONE && isDigit(peek()); i++) {
                int longer = value * 10 + peek() - '0';
                accept(value > 0 && longer <= most);
                value = longer;
            }
            accept(peek() == ';');
            return negative ? -value : value;
        }
    }

    /** The text of a plan. */
    private static final class Printer {
        // At most 40 nodes with their marks, and 20 numbers of at most 12 bytes with their ends.
        private static final int MOST_PRINTED = 400;

        private final Plan source;
        private final byte[] bytes = new byte[MOST_PRINTED];
        private int length;

        private Printer(Plan source) {
            this.source = source;
        }

        private void print() {
            length = 0;
            for (int k = 0; k < source.size; k++) printNode(k);
        }

        private void printNode(int k) {
            int letter = source.letter[k];
            int numbers = Plan.numbersOf(letter);
            put(letter);
            if (Reader.hasDigit(letter)) put('0' + source.mark[k]);
            else if (Reader.hasMark(letter)) put(source.mark[k]);
            if (numbers > 0) putNumber(source.first[k]);
            if (numbers > 1) putNumber(source.second[k]);
        }

        private void put(int b) {
            if (length >= MOST_PRINTED) return;
            bytes[length] = (byte) b;
            length++;
        }

        private void putNumber(int n) {
            // As a long, the smallest int has a positive counterpart, too.
            long rest = Math.abs((long) n);
            long unit = 1;
            for (int i = 0; i < 10 && unit * 10 <= rest; i++) unit *= 10;
            if (n < 0) put('-');
            for (int i = 0; i < 11 && unit > 0; i++) {
                put('0' + (int) (rest / unit % 10));
                unit /= 10;
            }
            put(';');
        }
    }

    /** The rules, and how often each one was applied. */
    private static final class Rewriter {
        private final Plan plan;
        private final int[] applied = new int[RULES];
        private int total;

        private Rewriter(Plan plan) {
            this.plan = plan;
        }

        private void simplify(boolean fromBack) {
            for (int rule = 0; rule < RULES; rule++) applied[rule] = 0;
            total = 0;
            for (int turn = 0; turn < MOST_TURNS; turn++) {
                int k = place(fromBack);
                int rule = ruleFor(k);
                if (rule == NONE) return;
                apply(rule, k);
                plan.measure();
                applied[rule]++;
                total++;
            }
        }

        /** The node at which the next rule is applied. */
        private int place(boolean fromBack) {
            int size = plan.size;
            for (int i = 0; i < size; i++) {
                int k = fromBack ? size - 1 - i : i;
                if (ruleFor(k) != NONE) return k;
            }
            return NONE;
        }

        private int ruleFor(int k) {
            if (!plan.has(k)) return NONE;
            switch (plan.letter[k]) {
                case 'r': return plan.second[k] <= plan.first[k] && !plan.isNil(k) ? 0 : NONE;
                case 't': return ruleForTake(k);
                case 'd': return ruleForDrop(k);
                case 'c': return plan.isNil(k + 1) || plan.isNil(plan.secondPart(k)) ? 12 : NONE;
                case 'i': case 's': case 'u': case 'v': return NONE;
                default: return plan.isNil(plan.input(k)) ? 11 : NONE;
            }
        }

        private int ruleForTake(int k) {
            switch (plan.letterAt(k + 1)) {
                case 't': return 1;
                case '+': case '*': case '%': return 3;
                case 'r': return 6;
                default: return plan.first[k] == 0 ? 9 : NONE;
            }
        }

        private int ruleForDrop(int k) {
            int below = plan.letterAt(k + 1);
            switch (below) {
                case 'd': return 2;
                case '+': case '*': case '%': return 4;
                case 'r': return 7;
                case 'i': return 8;
                default:
                    if (below == 't' && plan.has(k + 2) && plan.pure[k + 2]) return 5;
                    return plan.first[k] == 0 ? 10 : NONE;
            }
        }

        private void apply(int rule, int k) {
            switch (rule) {
                case 0: case 9: case 11:
                    plan.makeNil(k);
                    break;
                case 3: case 4:
                    plan.swapWithNext(k);
                    break;
                case 5:
                    swapDropWithTake(k);
                    break;
                case 10:
                    plan.cut(k, k + 1);
                    break;
                case 12:
                    keepOnePart(k);
                    break;
                default:
                    mergeWithNext(rule, k);
                    break;
            }
        }

        private void swapDropWithTake(int k) {
            if (!plan.has(k) || !plan.has(k + 1)) return;
            int dropped = plan.first[k];
            plan.swapWithNext(k);
            plan.first[k] = Math.max(0, plan.first[k] - dropped);
        }

        private void keepOnePart(int k) {
            int second = plan.secondPart(k);
            if (plan.isNil(k + 1)) {
                plan.cut(k, second);
            } else {
                plan.cut(second, second + 1);
                plan.cut(k, k + 1);
            }
        }

        private void mergeWithNext(int rule, int k) {
            int next = k + 1;
            if (!plan.has(k) || !plan.has(next)) return;
            int n = plan.first[k];
            int a = plan.first[next];
            int b = plan.second[next];
            if (rule == 1) plan.first[next] = Math.min(n, a);
            if (rule == 2) plan.first[next] = n + a;
            if (rule == 6) plan.second[next] = Math.min(b, a + n);
            if (rule == 7) plan.first[next] = Math.min(b, a + n);
            if (rule == 8) plan.first[next] = a + n * b;
            plan.cut(k, next);
        }
    }

    /** Four arrays that may be lost. */
    private static final class Sheets {
        private final int[] form = new int[SHEETS];
        // The number of elements, NONE for a lost sheet.
        private final int[] length = new int[SHEETS];
        private final int[] elements = new int[SHEETS * MOST_ELEMENTS];

        private Sheets() {
            for (int s = 0; s < SHEETS; s++) length[s] = NONE;
        }

        private boolean isLost(int s) {
            return s < 0 || s >= SHEETS || length[s] == NONE;
        }

        private boolean hasElement(int s, int i) {
            return s >= 0 && s < SHEETS && i >= 0 && i < length[s];
        }

        private boolean hasPart(int s, int i, int n) {
            return s >= 0 && s < SHEETS && i >= 0 && n >= 0 && (long) i + n <= length[s];
        }

        private void renew(int s, int newForm, int n) {
            if (s < 0 || s >= SHEETS || n < 0 || n > MOST_ELEMENTS) return;
            form[s] = newForm;
            length[s] = n;
            for (int i = 0; i < n; i++) elements[s * MOST_ELEMENTS + i] = 0;
        }

        private void store(int s, int i, int v) {
            if (!hasElement(s, i)) return;
            elements[s * MOST_ELEMENTS + i] = cast(form[s], v);
        }

        private static int cast(int form, int v) {
            if (form == 0) return (byte) v;
            return form == 1 ? (short) v : v;
        }

        private int at(int s, int i) {
            if (s < 0 || s >= SHEETS || i < 0 || i >= length[s]) return 0;
            return elements[s * MOST_ELEMENTS + i];
        }

        private void move(int s, int i, int t, int j, int n) {
            if (!hasPart(s, i, n) || !hasPart(t, j, n)) return;
            System.arraycopy(elements, s * MOST_ELEMENTS + i, elements, t * MOST_ELEMENTS + j, n);
        }
    }

    /** What a run leaves behind. */
    private static final class Run {
        private final int[] numbers = new int[MOST_RESULTS];
        private int size;
        private int drawn;
        private int work;
        private int elements;
        private int failure;
        private int failureDepth;
        private final int[] digits = new int[MOST_PAIRS];
        private final int[] notes = new int[MOST_PAIRS];
        private int pairs;

        private void begin() {
            size = 0;
            drawn = 0;
            work = 0;
            elements = 0;
            failure = 0;
            failureDepth = 0;
            pairs = 0;
        }

        private void give(int number) {
            if (size >= MOST_RESULTS) return;
            numbers[size] = number;
            size++;
        }

        /** Draws n numbers, or fails. */
        private boolean draw(int n) {
            if (n > MOST_DRAWN - drawn) {
                drawn = MOST_DRAWN;
                fail(SPENT_FAILURE, 0);
                return false;
            }
            drawn += n;
            return true;
        }

        private void fail(int number, int depth) {
            failure = number;
            failureDepth = depth;
        }

        private boolean failed() {
            return failure != 0;
        }

        private void note(int digit, int number) {
            if (pairs < MOST_PAIRS) {
                digits[pairs] = digit;
                notes[pairs] = number;
            }
            pairs++;
        }

        private int kept() {
            return Math.min(pairs, MOST_PAIRS);
        }

        private long sum() {
            long sum = 0;
            for (int i = 0; i < size; i++) sum += numbers[i];
            return sum;
        }

        private int greatest() {
            int greatest = Integer.MIN_VALUE;
            for (int i = 0; i < size; i++) greatest = Math.max(greatest, numbers[i]);
            return greatest;
        }

        private int smallest() {
            int smallest = Integer.MAX_VALUE;
            for (int i = 0; i < size; i++) smallest = Math.min(smallest, numbers[i]);
            return smallest;
        }
    }

    /** What the three ways have in common: what a node does with the numbers. */
    private abstract static class Way {
        final Plan plan;
        final Run run;
        final Sheets sheets;
        // For each x: the number for which it has opened its Q.
        final int[] opened = new int[MOST_NODES];
        // The number that the latest node gave.
        int value;

        Way(Plan plan, Run run, Sheets sheets) {
            this.plan = plan;
            this.run = run;
            this.sheets = sheets;
        }

        /** The number for which the Q was opened in which this node stands. */
        final int openedFor(int k) {
            int x = k >= 0 && k < plan.size ? plan.opener[k] : NONE;
            return x >= 0 && x < plan.size ? opened[x] : 0;
        }

        final boolean isReady(int k) {
            if (plan.letterAt(k) == 's' && sheets.isLost(plan.mark[k])) {
                run.fail(LOST_FAILURE, plan.nested[k]);
                return false;
            }
            return true;
        }

        /** How many numbers a producer has, which may be more than an int holds. */
        final long supply(int k) {
            if (!plan.has(k)) return 0;
            switch (plan.letter[k]) {
                case 'r': return Math.max(0L, (long) plan.second[k] - plan.first[k]);
                case 'i': return Long.MAX_VALUE;
                case 's': return isSheet(plan.mark[k]) ? sheets.length[plan.mark[k]] : 0;
                case 'u': return Math.max(0, openedFor(k));
                case 'v': return 1;
                default: return 0;
            }
        }

        final int supplied(int k, int i) {
            if (!plan.has(k)) return 0;
            switch (plan.letter[k]) {
                case 'r': return plan.first[k] + i;
                case 'i': return plan.first[k] + i * plan.second[k];
                case 's': return sheets.at(plan.mark[k], i);
                case 'v': return openedFor(k);
                default: return i;
            }
        }

        /** Sends a number through + * / % or l; false with a failure. */
        final boolean change(int k, int number) {
            if (!plan.has(k)) return false;
            int n = plan.first[k];
            value = number;
            switch (plan.letter[k]) {
                case '+':
                    value = number + n;
                    return true;
                case '*':
                    value = number * n;
                    return true;
                case '/':
                    return divide(k, n, number);
                case '%':
                    value = modulo(number, n);
                    return true;
                default:
                    run.note(plan.mark[k], number);
                    return true;
            }
        }

        private boolean divide(int k, int n, int number) {
            if (number == 0) {
                run.fail(ZERO_FAILURE, plan.nested[k]);
                return false;
            }
            value = n / number;
            return true;
        }

        private static int modulo(int number, int n) {
            return n == 0 ? 0 : Math.floorMod(number, n);
        }

        /** Tells whether ?, k or w lets a number pass. */
        final boolean passes(int k, int number) {
            if (!plan.has(k)) return false;
            int n = plan.first[k];
            if (plan.letter[k] == 'k') return modulo(number, n) == 0;
            if (plan.mark[k] == '<') return number < n;
            return plan.mark[k] == '>' ? number > n : number == n;
        }

        final int join(int k, int one, int other) {
            if (!plan.has(k)) return 0;
            if (plan.mark[k] == '+') return one + other;
            return plan.mark[k] == '*' ? one * other : Math.min(one, other);
        }
    }

    /** A way in which numbers come one by one, so that nodes remember how far they are. */
    private abstract static class Walk extends Way {
        // How many numbers a producer or t gave, or d dropped.
        final int[] used = new int[MOST_NODES];
        // Whether w or d has ended, c has gone on to its Q, z holds a number, or the Q of x is open.
        final boolean[] turned = new boolean[MOST_NODES];

        Walk(Plan plan, Run run, Sheets sheets) {
            super(plan, run, sheets);
        }

        final void restart(int from, int to) {
            for (int k = Math.max(from, 0); k < to && k < plan.size; k++) {
                used[k] = 0;
                turned[k] = false;
            }
        }

        final void open(int k, int number) {
            if (!plan.has(k)) return;
            opened[k] = number;
            turned[k] = true;
            restart(k + 1, plan.secondPart(k));
        }

        /** Gets the next number of a producer; false if it has none, and with a failure. */
        final boolean produce(int k) {
            if (!plan.has(k) || !isReady(k)) return false;
            if (used[k] >= supply(k) || !run.draw(1)) return false;
            value = supplied(k, used[k]);
            used[k]++;
            return true;
        }
    }

    /** Way 0: each node asks the one before it. What asks answers false for no number, and with a failure. */
    private static final class Asker extends Walk {
        private Asker(Plan plan, Run run, Sheets sheets) {
            super(plan, run, sheets);
        }

        private void play(int limit) {
            run.begin();
            restart(0, plan.size);
            for (int i = 0; i < limit && ask(0, 0); i++) run.give(value);
        }

        private boolean ask(int k, int level) {
            if (!plan.has(k) || level > MOST_LEVELS) return false;
            run.work++;
            switch (plan.letter[k]) {
                case '+': case '*': case '/': case '%': case 'l':
                    return ask(k + 1, level + 1) && change(k, value);
                case '?': case 'k': return askFilter(k, level);
                case 'w': return askWhile(k, level);
                case 't': return askTake(k, level);
                case 'd': return askDrop(k, level);
                case 'c': return askChain(k, level);
                case 'z': return askZip(k, level);
                case 'x': return askOpener(k, level);
                default: return produce(k);
            }
        }

        private boolean askFilter(int k, int level) {
            for (int turn = 0; turn < MOST_TURNS; turn++) {
                if (!ask(k + 1, level + 1)) return false;
                if (passes(k, value)) return true;
            }
            return false;
        }

        private boolean askWhile(int k, int level) {
            if (turned[k] || !ask(k + 1, level + 1)) return false;
            turned[k] = !passes(k, value);
            return !turned[k];
        }

        private boolean askTake(int k, int level) {
            if (used[k] >= plan.first[k] || !ask(k + 1, level + 1)) return false;
            used[k]++;
            return true;
        }

        private boolean askDrop(int k, int level) {
            // More than the numbers that can be drawn need not be counted.
            int most = Math.min(plan.first[k], MOST_TURNS);
            for (int i = used[k]; i < most && !turned[k]; i++) {
                used[k]++;
                turned[k] = !ask(k + 1, level + 1);
            }
            if (turned[k]) return false;
            turned[k] = !ask(k + 1, level + 1);
            return !turned[k];
        }

        private boolean askChain(int k, int level) {
            if (!turned[k]) {
                if (ask(k + 1, level + 1)) return true;
                if (run.failed()) return false;
                turned[k] = true;
            }
            return ask(plan.secondPart(k), level + 1);
        }

        private boolean askZip(int k, int level) {
            if (!ask(k + 1, level + 1)) return false;
            int one = value;
            if (!ask(plan.secondPart(k), level + 1)) return false;
            value = join(k, one, value);
            return true;
        }

        private boolean askOpener(int k, int level) {
            for (int turn = 0; turn < MOST_TURNS; turn++) {
                if (turned[k]) {
                    if (ask(k + 1, level + 1)) return true;
                    if (run.failed()) return false;
                    turned[k] = false;
                }
                if (!ask(plan.input(k), level + 1)) return false;
                open(k, value);
            }
            return false;
        }
    }

    /** Way 1: steps that give a number, skip or end. */
    private static final class Stepper extends Walk {
        private static final int ENDS = 0, SKIPS = 1, GIVES = 2, FAILS = 3;

        // For each z: the number that it holds.
        private final int[] held = new int[MOST_NODES];

        private Stepper(Plan plan, Run run, Sheets sheets) {
            super(plan, run, sheets);
        }

        private void play(int limit) {
            run.begin();
            restart(0, plan.size);
            for (int turn = 0; turn < MOST_TURNS && run.size < limit; turn++) {
                run.work++;
                int outcome = step(0, 0);
                if (outcome == ENDS || outcome == FAILS) return;
                if (outcome == GIVES) run.give(value);
            }
        }

        private int step(int k, int level) {
            if (!plan.has(k) || level > MOST_LEVELS) return ENDS;
            switch (plan.letter[k]) {
                case 'c': return stepChain(k, level);
                case 'z': return stepZip(k, level);
                case 'x': return stepOpener(k, level);
                case 'r': case 'i': case 's': case 'u': case 'v':
                    return given(produce(k));
                default: return stepOne(k, level);
            }
        }

        private int stepOne(int k, int level) {
            if (plan.letter[k] == 't' && used[k] >= plan.first[k]) return ENDS;
            int outcome = step(k + 1, level + 1);
            if (outcome != GIVES) return outcome;
            switch (plan.letter[k]) {
                case '?': case 'k': return passes(k, value) ? GIVES : SKIPS;
                case 'w': return passes(k, value) ? GIVES : ENDS;
                case 't':
                    used[k]++;
                    return GIVES;
                case 'd':
                    if (used[k] >= plan.first[k]) return GIVES;
                    used[k]++;
                    return SKIPS;
                default: return given(change(k, value));
            }
        }

        /** The outcome for a number that is given, or missing. */
        private int given(boolean there) {
            if (there) return GIVES;
            return run.failed() ? FAILS : ENDS;
        }

        private int stepChain(int k, int level) {
            if (turned[k]) return step(plan.secondPart(k), level + 1);
            int outcome = step(k + 1, level + 1);
            if (outcome != ENDS) return outcome;
            turned[k] = true;
            return SKIPS;
        }

        private int stepZip(int k, int level) {
            int outcome = step(turned[k] ? plan.secondPart(k) : k + 1, level + 1);
            if (outcome != GIVES) return outcome;
            turned[k] = !turned[k];
            if (turned[k]) {
                held[k] = value;
                return SKIPS;
            }
            value = join(k, held[k], value);
            return GIVES;
        }

        private int stepOpener(int k, int level) {
            if (turned[k]) {
                int outcome = step(k + 1, level + 1);
                if (outcome != ENDS) return outcome;
                turned[k] = false;
                return SKIPS;
            }
            int outcome = step(plan.input(k), level + 1);
            if (outcome != GIVES) return outcome;
            open(k, value);
            return SKIPS;
        }
    }

    /** Way 2: for each node a row with all its numbers; false tells of a failure. */
    private static final class Maker extends Way {
        private final int[] rows = new int[MOST_NODES * MOST_ELEMENTS];
        private final int[] length = new int[MOST_NODES];

        private Maker(Plan plan, Run run, Sheets sheets) {
            super(plan, run, sheets);
        }

        private void play(int limit) {
            run.begin();
            if (!make(0, 0)) return;
            for (int i = 0; i < limit && i < length[0]; i++) run.give(rows[i]);
        }

        private boolean make(int k, int level) {
            if (!plan.has(k) || level > MOST_LEVELS) return false;
            length[k] = 0;
            if (!fill(k, level)) return false;
            run.work++;
            run.elements += length[k];
            return true;
        }

        private boolean fill(int k, int level) {
            int parts = Plan.partsOf(plan.letter[k]);
            if (parts == 0) return fillFromProducer(k);
            if (!make(plan.input(k), level + 1)) return false;
            if (plan.letter[k] == 'x') return fillByOpening(k, level);
            if (parts == 1) return fillFromInput(k);
            int second = plan.secondPart(k);
            if (!make(second, level + 1)) return false;
            if (plan.letter[k] == 'c') return addRow(k, k + 1) && addRow(k, second);
            zip(k, second);
            return true;
        }

        private boolean fillFromProducer(int k) {
            if (!isReady(k)) return false;
            long n = supply(k);
            if (n > MOST_ELEMENTS) {
                run.fail(LONG_FAILURE, plan.nested[k]);
                return false;
            }
            if (!run.draw((int) n)) return false;
            for (int i = 0; i < n; i++) add(k, supplied(k, i));
            return true;
        }

        private boolean fillFromInput(int k) {
            int p = k + 1;
            if (!plan.has(p)) return false;
            for (int i = 0; i < length[p]; i++) {
                int number = element(p, i);
                switch (plan.letter[k]) {
                    case '?': case 'k':
                        if (passes(k, number)) add(k, number);
                        break;
                    case 'w':
                        if (!passes(k, number)) return true;
                        add(k, number);
                        break;
                    case 't':
                        if (i < plan.first[k]) add(k, number);
                        break;
                    case 'd':
                        if (i >= plan.first[k]) add(k, number);
                        break;
                    default:
                        if (!change(k, number)) return false;
                        add(k, value);
                        break;
                }
            }
            return true;
        }

        private boolean fillByOpening(int k, int level) {
            int p = plan.input(k);
            if (!plan.has(p)) return false;
            for (int i = 0; i < length[p]; i++) {
                opened[k] = element(p, i);
                if (!make(k + 1, level + 1) || !addRow(k, k + 1)) return false;
            }
            return true;
        }

        private boolean addRow(int k, int from) {
            if (!plan.has(k) || !plan.has(from)) return false;
            if (length[k] + length[from] > MOST_ELEMENTS) {
                run.fail(LONG_FAILURE, plan.nested[k]);
                return false;
            }
            System.arraycopy(rows, from * MOST_ELEMENTS, rows, k * MOST_ELEMENTS + length[k], length[from]);
            length[k] += length[from];
            return true;
        }

        private void zip(int k, int second) {
            int first = k + 1;
            if (!plan.has(first) || !plan.has(second)) return;
            int n = Math.min(length[first], length[second]);
            for (int i = 0; i < n; i++) add(k, join(k, element(first, i), element(second, i)));
        }

        private int element(int k, int i) {
            return plan.has(k) && i >= 0 && i < length[k] ? rows[k * MOST_ELEMENTS + i] : 0;
        }

        private void add(int k, int number) {
            if (!plan.has(k) || length[k] >= MOST_ELEMENTS) return;
            rows[k * MOST_ELEMENTS + length[k]] = number;
            length[k]++;
        }
    }
}
