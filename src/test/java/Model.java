import java.util.ArrayList;
import java.util.List;

/**
 * The document once more, in another form: trees of objects that are made anew for each opening, lists and
 * exceptions. It shares no code and no method of work with StreamFuser, so that both can be compared.
 */
final class Model {
    private static final long BAD_LONG = Long.MIN_VALUE + 2;
    private static final long NOT_LONG = Long.MIN_VALUE + 3;

    static final class Failure extends RuntimeException {
        private static final long serialVersionUID = 1;

        final int number;
        final int depth;

        Failure(int number, int depth) {
            super(null, null, false, false);
            this.number = number;
            this.depth = depth;
        }
    }

    /** A node of a pipe as it is written; parts in the order of the text. */
    static final class Node {
        char letter;
        int mark = -1;
        int[] numbers = new int[0];
        List<Node> parts = new ArrayList<>();

        Node same() {
            Node n = new Node();
            n.letter = letter;
            n.mark = mark;
            n.numbers = numbers.clone();
            for (Node part : parts) n.parts.add(part.same());
            return n;
        }

        boolean pure() {
            if ("/ls".indexOf(letter) >= 0) return false;
            for (Node part : parts) if (!part.pure()) return false;
            return true;
        }

        boolean nil() {
            return letter == 'r' && numbers[0] == 0 && numbers[1] == 0;
        }

        Node input() {
            return letter == 'x' ? parts.get(1) : parts.get(0);
        }

        void list(List<Node> into) {
            into.add(this);
            for (Node part : parts) part.list(into);
        }

        String written() {
            StringBuilder out = new StringBuilder().append(letter);
            if (letter == 's' || letter == 'l') out.append(mark);
            else if (mark >= 0) out.append((char) mark);
            for (int n : numbers) out.append(n).append(';');
            for (Node part : parts) out.append(part.written());
            return out.toString();
        }
    }

    // ---- reading

    /** Reads a whole text as a pipe, or tells null. */
    private static final class Parser {
        final String text;
        int at;

        Parser(String text) {
            this.text = text;
        }

        static Node parse(String text) {
            Parser parser = new Parser(text);
            Node node = parser.pipe(0);
            return node != null && parser.at == text.length() ? node : null;
        }

        char next() {
            return at < text.length() ? text.charAt(at++) : '\uffff';
        }

        Node pipe(int opened) {
            Node n = new Node();
            n.letter = next();
            switch (n.letter) {
                case 'r': case 'i': return number(n, "0|-?[1-9][0-9]{0,3}", 2) ? n : null;
                case 's': return mark(n, "0123") ? n : null;
                case 'u': case 'v': return opened > 0 ? n : null;
                case '+': case '*': case '/':
                    return number(n, "0|-?[1-9][0-9]{0,3}", 1) && parts(n, opened) ? n : null;
                case '%': case 'k': return number(n, "[1-9][0-9]{0,3}", 1) && parts(n, opened) ? n : null;
                case 't': case 'd': return number(n, "0|[1-9][0-9]?", 1) && parts(n, opened) ? n : null;
                case 'l': return mark(n, "0123456789") && parts(n, opened) ? n : null;
                case '?': case 'w':
                    return mark(n, "<>=") && number(n, "0|-?[1-9][0-9]{0,3}", 1) && parts(n, opened) ? n : null;
                case 'c': return parts(n, opened) && parts(n, opened) ? n : null;
                case 'z': return mark(n, "+*<") && parts(n, opened) && parts(n, opened) ? n : null;
                case 'x': return parts(n, opened + 1) && parts(n, opened) ? n : null;
                default: return null;
            }
        }

        boolean parts(Node n, int opened) {
            Node part = pipe(opened);
            if (part == null) return false;
            n.parts.add(part);
            return true;
        }

        boolean mark(Node n, String of) {
            char c = next();
            n.mark = of.startsWith("0") ? c - '0' : c;
            return of.indexOf(c) >= 0;
        }

        boolean number(Node n, String form, int times) {
            int[] numbers = new int[times];
            for (int i = 0; i < times; i++) {
                int stop = text.indexOf(';', at);
                if (stop < 0 || !text.substring(at, stop).matches(form)) return false;
                numbers[i] = Integer.parseInt(text.substring(at, stop));
                at = stop + 1;
            }
            n.numbers = numbers;
            return true;
        }
    }

    private static final String[] MENDS = {"", ";", "1;", ";1;", "1;1;", "<1;", "=", "+", "0"};

    /** Tells whether some pipe begins with a text: an opened token is mended, then come pipes that are due. */
    private static boolean begins(String text) {
        for (String mend : MENDS) {
            StringBuilder whole = new StringBuilder(text).append(mend);
            for (int i = 0; i <= 41; i++) {
                if (Parser.parse(whole.toString()) != null) return true;
                whole.append("s0");
            }
        }
        return false;
    }

    private static final java.util.Map<String, Integer> FAULTS = new java.util.HashMap<>();

    static int faultOf(String text) {
        return FAULTS.computeIfAbsent(text, Model::searchFault);
    }

    private static int searchFault(String text) {
        for (int p = 1; p <= text.length(); p++) if (!begins(text.substring(0, p))) return p - 1;
        return Parser.parse(text) == null ? text.length() : -1;
    }

    // ---- the state

    private final StringBuilder text = new StringBuilder();
    private Node plan;
    private int[] applied = new int[13];
    private int finding;
    private final int[][] sheets = new int[4][];
    private final int[] forms = new int[4];
    private Run latest = new Run();

    /** What a run leaves behind. */
    private static final class Run {
        List<Integer> result = new ArrayList<>();
        int drawn;
        int work;
        int elements;
        int failure;
        int depth;
        List<long[]> pairs = new ArrayList<>();
    }

    /** The x around a node: for which number it was opened, and the one around it. */
    private static final class Around {
        final int w;
        final int depth;

        Around(int w, Around outer) {
            this.w = w;
            this.depth = outer.depth + 1;
        }

        Around() {
            w = 0;
            depth = 0;
        }
    }

    private void draw(Run run) {
        if (run.drawn == 500) throw new Failure(3, 0);
        run.drawn++;
    }

    private int change(Run run, Node n, Around around, int number) {
        switch (n.letter) {
            case '+': return number + n.numbers[0];
            case '*': return number * n.numbers[0];
            case '/':
                if (number == 0) throw new Failure(1, around.depth);
                return n.numbers[0] / number;
            case '%': {
                int rest = number % n.numbers[0];
                return rest < 0 ? rest + n.numbers[0] : rest;
            }
            default:
                run.pairs.add(new long[] {n.mark, number});
                return number;
        }
    }

    private static boolean passes(Node n, int number) {
        if (n.letter == 'k') return number % n.numbers[0] == 0;
        switch (n.mark) {
            case '<': return number < n.numbers[0];
            case '>': return number > n.numbers[0];
            default: return number == n.numbers[0];
        }
    }

    private static int join(Node n, int one, int other) {
        switch (n.mark) {
            case '+': return one + other;
            case '*': return one * other;
            default: return one < other ? one : other;
        }
    }

    /** The number with this index of a producer, or null behind the last one. */
    private Integer supply(Node n, Around around, long i) {
        switch (n.letter) {
            case 'r': return n.numbers[0] + i < n.numbers[1] ? Integer.valueOf((int) (n.numbers[0] + i)) : null;
            case 'i': return (int) (n.numbers[0] + i * n.numbers[1]);
            case 's': {
                int[] sheet = sheets[n.mark];
                if (sheet == null) throw new Failure(2, around.depth);
                return i < sheet.length ? Integer.valueOf(sheet[(int) i]) : null;
            }
            case 'u': return i < around.w ? Integer.valueOf((int) i) : null;
            default: return i == 0 ? Integer.valueOf(around.w) : null;
        }
    }

    // ---- way 0

    private abstract static class Asked {
        abstract Integer next();
    }

    private Asked asked(Run run, Node n, Around around) {
        Asked inner = askedInner(run, n, around);
        return new Asked() {
            @Override Integer next() {
                run.work++;
                return inner.next();
            }
        };
    }

    private Asked askedInner(Run run, Node n, Around around) {
        if (n.parts.isEmpty()) return askedProducer(run, n, around);
        if (n.letter == 'x') return askedOpener(run, n, around);
        Asked p = asked(run, n.parts.get(0), around);
        Asked q = n.parts.size() > 1 ? asked(run, n.parts.get(1), around) : null;
        switch (n.letter) {
            case '?': case 'k': return new Asked() {
                @Override Integer next() {
                    Integer got = p.next();
                    while (got != null && !passes(n, got)) got = p.next();
                    return got;
                }
            };
            case 'w': return new Asked() {
                boolean over;
                @Override Integer next() {
                    if (over) return null;
                    Integer got = p.next();
                    if (got == null) return null;
                    over = !passes(n, got);
                    return over ? null : got;
                }
            };
            case 't': return new Asked() {
                int gave;
                @Override Integer next() {
                    if (gave >= n.numbers[0]) return null;
                    Integer got = p.next();
                    if (got != null) gave++;
                    return got;
                }
            };
            case 'd': return new Asked() {
                boolean asked;
                @Override Integer next() {
                    if (!asked) {
                        asked = true;
                        for (int i = 0; i < n.numbers[0]; i++) if (p.next() == null) return null;
                    }
                    return p.next();
                }
            };
            case 'c': return new Asked() {
                boolean second;
                @Override Integer next() {
                    if (!second) {
                        Integer got = p.next();
                        if (got != null) return got;
                        second = true;
                    }
                    return q.next();
                }
            };
            case 'z': return new Asked() {
                @Override Integer next() {
                    Integer one = p.next();
                    if (one == null) return null;
                    Integer other = q.next();
                    return other == null ? null : Integer.valueOf(join(n, one, other));
                }
            };
            default: return new Asked() {
                @Override Integer next() {
                    Integer got = p.next();
                    return got == null ? null : Integer.valueOf(change(run, n, around, got));
                }
            };
        }
    }

    private Asked askedProducer(Run run, Node n, Around around) {
        return new Asked() {
            long i;
            @Override Integer next() {
                Integer got = supply(n, around, i);
                if (got != null) draw(run);
                i++;
                return got;
            }
        };
    }

    private Asked askedOpener(Run run, Node n, Around around) {
        Asked p = asked(run, n.parts.get(1), around);
        return new Asked() {
            Asked open;
            @Override Integer next() {
                while (true) {
                    Integer got = open == null ? null : open.next();
                    if (got != null) return got;
                    open = null;
                    Integer w = p.next();
                    if (w == null) return null;
                    open = asked(run, n.parts.get(0), new Around(w, around));
                }
            }
        };
    }

    // ---- way 1: a step answers a number, SKIP or END

    private static final Object SKIP = "skip";
    private static final Object END = "end";

    private abstract static class Stepped {
        abstract Object step();
    }

    private Stepped stepped(Run run, Node n, Around around) {
        if (n.parts.isEmpty()) {
            Asked producer = askedProducer(run, n, around);
            return new Stepped() {
                @Override Object step() {
                    Integer got = producer.next();
                    return got == null ? END : got;
                }
            };
        }
        if (n.parts.size() == 2) return steppedTwo(run, n, around);
        Stepped p = stepped(run, n.parts.get(0), around);
        return new Stepped() {
            int given;
            @Override Object step() {
                if (n.letter == 't' && given >= n.numbers[0]) return END;
                Object got = p.step();
                if (!(got instanceof Integer)) return got;
                int number = (Integer) got;
                given++;
                switch (n.letter) {
                    case '?': case 'k': return passes(n, number) ? got : SKIP;
                    case 'w': return passes(n, number) ? got : END;
                    case 't': return got;
                    case 'd': return given <= n.numbers[0] ? SKIP : got;
                    default: return change(run, n, around, number);
                }
            }
        };
    }

    private Stepped steppedTwo(Run run, Node n, Around around) {
        if (n.letter == 'x') {
            Stepped p = stepped(run, n.parts.get(1), around);
            return new Stepped() {
                Stepped open;
                @Override Object step() {
                    if (open != null) {
                        Object got = open.step();
                        if (got != END) return got;
                        open = null;
                        return SKIP;
                    }
                    Object got = p.step();
                    if (!(got instanceof Integer)) return got;
                    open = stepped(run, n.parts.get(0), new Around((Integer) got, around));
                    return SKIP;
                }
            };
        }
        Stepped p = stepped(run, n.parts.get(0), around);
        Stepped q = stepped(run, n.parts.get(1), around);
        if (n.letter == 'c') return new Stepped() {
            Stepped now = p;
            @Override Object step() {
                Object got = now.step();
                if (got != END || now == q) return got;
                now = q;
                return SKIP;
            }
        };
        return new Stepped() {
            Object held;
            @Override Object step() {
                if (held == null) {
                    Object got = p.step();
                    if (!(got instanceof Integer)) return got;
                    held = got;
                    return SKIP;
                }
                Object got = q.step();
                if (!(got instanceof Integer)) return got;
                int joined = join(n, (Integer) held, (Integer) got);
                held = null;
                return joined;
            }
        };
    }

    // ---- way 2

    private List<Integer> array(Run run, Node n, Around around) {
        List<Integer> made = new ArrayList<>();
        if (n.parts.isEmpty()) {
            long size = 0;
            while (supply(n, around, size) != null) if (++size > 60) throw new Failure(4, around.depth);
            for (int i = 0; i < size; i++) {
                draw(run);
                made.add(supply(n, around, i));
            }
        } else if (n.letter == 'x') {
            for (int w : array(run, n.parts.get(1), around)) {
                made.addAll(array(run, n.parts.get(0), new Around(w, around)));
                if (made.size() > 60) throw new Failure(4, around.depth);
            }
        } else {
            List<Integer> p = array(run, n.parts.get(0), around);
            List<Integer> q = n.parts.size() > 1 ? array(run, n.parts.get(1), around) : null;
            if (n.letter == 'c') {
                made.addAll(p);
                made.addAll(q);
                if (made.size() > 60) throw new Failure(4, around.depth);
            } else if (n.letter == 'z') {
                for (int i = 0; i < p.size() && i < q.size(); i++) made.add(join(n, p.get(i), q.get(i)));
            } else {
                made = fromOne(run, n, around, p);
            }
        }
        run.work++;
        run.elements += made.size();
        return made;
    }

    private List<Integer> fromOne(Run run, Node n, Around around, List<Integer> p) {
        if (n.letter == 't') return new ArrayList<>(p.subList(0, Math.min(p.size(), n.numbers[0])));
        if (n.letter == 'd') return new ArrayList<>(p.subList(Math.min(p.size(), n.numbers[0]), p.size()));
        List<Integer> made = new ArrayList<>();
        boolean filters = "?kw".indexOf(n.letter) >= 0;
        for (int number : p) {
            if (!filters) made.add(change(run, n, around, number));
            else if (passes(n, number)) made.add(number);
            else if (n.letter == 'w') break;
        }
        return made;
    }

    private Run execute(Node root, int way, int limit) {
        Run run = new Run();
        try {
            if (way == 0) {
                Asked asked = asked(run, root, new Around());
                while (run.result.size() < limit) {
                    Integer got = asked.next();
                    if (got == null) break;
                    run.result.add(got);
                }
            } else if (way == 1) {
                Stepped stepped = stepped(run, root, new Around());
                while (run.result.size() < limit) {
                    run.work++;
                    Object got = stepped.step();
                    if (got == END) break;
                    if (got != SKIP) run.result.add((Integer) got);
                }
            } else {
                List<Integer> made = array(run, root, new Around());
                run.result.addAll(made.subList(0, Math.min(limit, made.size())));
            }
        } catch (Failure failure) {
            run.failure = failure.number;
            run.depth = failure.depth;
        }
        return run;
    }

    // ---- rules: a node rewritten by its first rule, or null

    private static Node nil() {
        Node n = new Node();
        n.letter = 'r';
        n.numbers = new int[2];
        return n;
    }

    private static Node with(Node n, int... numbers) {
        Node made = n.same();
        made.numbers = numbers;
        return made;
    }

    private static Node within(Node outer, Node part) {
        Node made = outer.same();
        made.parts.clear();
        made.parts.add(part);
        return made;
    }

    private static Node rewrite(Node node, int rule) {
        Node p = node.parts.isEmpty() ? null : node.parts.get(0);
        int n = node.numbers.length > 0 ? node.numbers[0] : 0;
        boolean take = node.letter == 't';
        boolean drop = node.letter == 'd';
        boolean mapped = p != null && "+*%".indexOf(p.letter) >= 0;
        boolean range = p != null && p.letter == 'r';
        switch (rule) {
            case 0: return node.letter == 'r' && node.numbers[1] <= n && !node.nil() ? nil() : null;
            case 1: return take && p.letter == 't' ? with(p, Math.min(n, p.numbers[0])) : null;
            case 2: return drop && p.letter == 'd' ? with(p, n + p.numbers[0]) : null;
            case 3: return take && mapped ? within(p, within(node, p.parts.get(0))) : null;
            case 4: return drop && mapped ? within(p, within(node, p.parts.get(0))) : null;
            case 5: return drop && p.letter == 't' && p.parts.get(0).pure()
                ? with(within(p, within(node, p.parts.get(0))), Math.max(0, p.numbers[0] - n)) : null;
            case 6: return take && range
                ? with(p, p.numbers[0], Math.min(p.numbers[1], p.numbers[0] + n)) : null;
            case 7: return drop && range
                ? with(p, Math.min(p.numbers[1], p.numbers[0] + n), p.numbers[1]) : null;
            case 8: return drop && p.letter == 'i'
                ? with(p, p.numbers[0] + n * p.numbers[1], p.numbers[1]) : null;
            case 9: return take && n == 0 ? nil() : null;
            case 10: return drop && n == 0 ? p : null;
            case 11: return "+*/%l?kwxz".indexOf(node.letter) >= 0 && node.input().nil() ? nil() : null;
            default:
                if (node.letter != 'c') return null;
                if (p.nil()) return node.parts.get(1);
                return node.parts.get(1).nil() ? p : null;
        }
    }

    private static Node replaced(Node at, Node old, Node now) {
        if (at == old) return now;
        for (int i = 0; i < at.parts.size(); i++) at.parts.set(i, replaced(at.parts.get(i), old, now));
        return at;
    }

    private static Node simplified(Node from, int mode, int[] counts) {
        Node root = from.same();
        boolean changed = true;
        while (changed) {
            changed = false;
            List<Node> nodes = new ArrayList<>();
            root.list(nodes);
            if (mode == 1) java.util.Collections.reverse(nodes);
            for (int i = 0; i < nodes.size() && !changed; i++) {
                for (int rule = 0; rule < 13 && !changed; rule++) {
                    Node now = rewrite(nodes.get(i), rule);
                    if (now == null) continue;
                    root = replaced(root, nodes.get(i), now);
                    counts[rule]++;
                    changed = true;
                }
            }
        }
        return root;
    }

    // ---- the face

    int type(int b) {
        if (b < 0 || b > 255) return -2;
        if (text.length() == 40) return -4;
        text.append((char) b);
        return text.length();
    }

    int wipe() {
        int had = text.length();
        text.setLength(0);
        return had;
    }

    int fault() {
        return faultOf(text.toString());
    }

    private List<Node> nodes() {
        List<Node> nodes = new ArrayList<>();
        if (plan != null) plan.list(nodes);
        return nodes;
    }

    int plan() {
        int fault = fault();
        if (fault >= 0) return -1000 - fault;
        plan = Parser.parse(text.toString());
        return nodes().size();
    }

    private static int around(Node at, Node node, int depth) {
        if (at == node) return depth;
        for (Node part : at.parts) {
            int found = around(part, node, depth + 1);
            if (found >= 0) return found;
        }
        return -1;
    }

    int node(int k, int what) {
        List<Node> nodes = nodes();
        if (k < 0 || k >= nodes.size() || what < 0 || what > 5) return Integer.MIN_VALUE;
        Node n = nodes.get(k);
        switch (what) {
            case 0: return n.letter;
            case 1: return n.mark;
            case 2: return n.numbers.length > 0 ? n.numbers[0] : 0;
            case 3: return n.numbers.length > 1 ? n.numbers[1] : 0;
            case 4: return around(plan, n, 0);
            default: return n.pure() ? 1 : 0;
        }
    }

    int text(int n) {
        if (plan == null) return -2;
        String written = plan.written();
        if (n == -1) return written.length();
        return n >= 0 && n < written.length() ? written.charAt(n) : -2;
    }

    int tidy(int how) {
        if (how < 0 || how > 1) return -2;
        if (plan == null) return -3;
        applied = new int[13];
        plan = simplified(plan, how, applied);
        return count(6);
    }

    int rules(int k) {
        return k >= 0 && k < 13 ? applied[k] : -2;
    }

    int saves(int limit) {
        if (limit < 0 || limit > 40 || plan == null) return Integer.MIN_VALUE;
        return execute(plan, 0, limit).drawn - execute(simplified(plan, 0, new int[13]), 0, limit).drawn;
    }

    int run(int way, int limit) {
        if (way < 0 || way > 2 || limit < 0 || limit > 40) return -2;
        if (plan == null) return -3;
        if (way == 2) for (Node n : nodes()) if (n.letter == 'i') return -3;
        latest = execute(plan, way, limit);
        return latest.result.size();
    }

    long result(int i) {
        return i >= 0 && i < latest.result.size() ? latest.result.get(i) : BAD_LONG;
    }

    long fold(int what) {
        if (what < 0 || what > 2) return BAD_LONG;
        if (what == 0) return latest.result.stream().mapToLong(n -> n).sum();
        if (latest.result.isEmpty()) return NOT_LONG;
        return what == 1 ? java.util.Collections.max(latest.result) : java.util.Collections.min(latest.result);
    }

    int failure(int what) {
        return what == 0 ? latest.failure : what == 1 ? latest.depth : -2;
    }

    int told(int what) {
        switch (what) {
            case 0: return latest.drawn;
            case 1: return latest.work;
            case 2: return latest.elements;
            case 3: return latest.pairs.size();
            default: return -2;
        }
    }

    long written(int i, int what) {
        if (i < 0 || i >= 40 || i >= latest.pairs.size() || what < 0 || what > 1) return BAD_LONG;
        return latest.pairs.get(i)[what];
    }

    private static boolean outside(int n, int last) {
        return n < 0 || n > last;
    }

    private int found(int error) {
        finding = -error - 10;
        return error;
    }

    private static int cast(int form, int v) {
        return form == 0 ? (byte) v : form == 1 ? (short) v : v;
    }

    int sheet(int s, int form, int n) {
        if (outside(s, 3) || outside(form, 2) || n > 60) return -2;
        if (n < 0) return found(-15);
        sheets[s] = new int[n];
        forms[s] = form;
        return n;
    }

    int lose(int s) {
        if (outside(s, 3)) return -2;
        if (sheets[s] == null) return found(-11);
        int had = sheets[s].length;
        sheets[s] = null;
        return had;
    }

    private int element(int s, int form, int i) {
        if (outside(s, 3) || outside(form, 2)) return -2;
        if (sheets[s] == null) return found(-11);
        if (forms[s] != form) return found(-13);
        return outside(i, sheets[s].length - 1) ? found(-12) : 1;
    }

    int lay(int s, int form, int i, int v) {
        int answer = element(s, form, i);
        if (answer == 1) sheets[s][i] = cast(form, v);
        return answer;
    }

    int get(int s, int form, int i) {
        return element(s, form, i) == 1 ? sheets[s][i] : Integer.MIN_VALUE;
    }

    int copy(int s, int i, int t, int j, int n) {
        if (outside(s, 3) || outside(t, 3)) return -2;
        if (sheets[s] == null || sheets[t] == null) return found(-11);
        if (forms[s] != forms[t]) return found(-14);
        if (i < 0 || j < 0 || n < 0) return found(-12);
        if ((long) i + n > sheets[s].length || (long) j + n > sheets[t].length) return found(-12);
        int[] between = sheets[s].clone();
        for (int m = 0; m < n; m++) sheets[t][j + m] = between[i + m];
        return 1;
    }

    int write(int s) {
        if (outside(s, 3)) return -2;
        if (sheets[s] == null) return found(-11);
        int n = 0;
        while (n < sheets[s].length && n < latest.result.size()) {
            sheets[s][n] = cast(forms[s], latest.result.get(n));
            n++;
        }
        return n;
    }

    int count(int what) {
        switch (what) {
            case 0: return nodes().size();
            case 1: return text.length();
            case 2: return latest.result.size();
            case 3: return latest.failure;
            case 4: return latest.pairs.size();
            case 5: return latest.drawn;
            case 6: {
                int total = 0;
                for (int times : applied) total += times;
                return total;
            }
            case 7: {
                int most = -1;
                for (int k = 0; k < nodes().size(); k++) most = Math.max(most, node(k, 4));
                return most;
            }
            case 8: return finding;
            default: return -2;
        }
    }

    long digest() {
        List<Long> all = new ArrayList<>();
        for (int w = 0; w < 8; w++) all.add((long) count(w));
        all.add((long) fault());
        for (int k = 0; k < nodes().size(); k++) for (int w = 0; w < 6; w++) all.add((long) node(k, w));
        all.add((long) text(-1));
        for (int n = 0; n < text(-1); n++) all.add((long) text(n));
        for (int k = 0; k < 13; k++) all.add((long) rules(k));
        for (int i = 0; i < latest.result.size(); i++) all.add(result(i));
        for (int w = 0; w < 3; w++) all.add(fold(w));
        for (int w = 0; w < 2; w++) all.add((long) failure(w));
        for (int w = 0; w < 4; w++) all.add((long) told(w));
        for (int i = 0; i < Math.min(40, latest.pairs.size()); i++) for (int w = 0; w < 2; w++) all.add(written(i, w));
        all.add((long) saves(3));
        long hash = 17;
        for (long one : all) hash = hash * 31 + one;
        return hash;
    }
}
