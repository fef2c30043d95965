/** Calls that return an error: what they answer, which finding they leave, and that nothing else changes by them. */
final class Refused {
    private static final int NO_INT = Integer.MIN_VALUE;

    /** A call with its arguments. */
    interface Call {
        long on(StreamFuser x);
    }

    private Refused() {}

    /**
     * An object with something of all kinds: a plan that was simplified, another text, a run with a failure and
     * pairs, the sheets 0 (3 bytes), 1 (2 shorts), 2 (4 ints), 3 (lost), and a finding.
     */
    static StreamFuser object(int finding) {
        StreamFuser x = Check.planned("/6;l4r-2;2;");
        x.run(0, 9);
        Check.replan(x, "t2;t5;d1;l3cs0s1");
        x.tidy(0);
        Check.retype(x, "l1s");
        for (int s = 0; s < 3; s++) {
            x.sheet(s, s, s == 0 ? 3 : s * 2);
            x.lay(s, s, 1, s + 5);
        }
        if (finding == 1) x.lose(3);
        if (finding == 2) x.get(0, 0, 3);
        if (finding == 4) x.copy(0, 0, 1, 0, 0);
        if (finding == 5) x.sheet(0, 0, -1);
        Check.due("the finding of before", x.count(8), finding);
        return x;
    }

    /** A call that is refused without a finding: the one of before stays. */
    static void plainly(String name, Call call, long want) {
        with(name, call, want, 0, 0);
        with(name, call, want, 5, 5);
    }

    /** A call that finds something, on an object with another finding, or with none. */
    static void finding(String name, Call call, long want, int finding) {
        with(name, call, want, 0, finding);
        with(name, call, want, finding == 5 ? 4 : 5, finding);
    }

    private static void with(String name, Call call, long want, int before, int after) {
        StreamFuser x = object(before);
        StreamFuser y = object(before);
        Check.due(name, call.on(x), want);
        Check.due(name + ", count(8)", x.count(8), after);
        same(name, x, y);
    }

    /** All that can be asked of two objects is the same, but for their findings. */
    static void same(String name, StreamFuser x, StreamFuser y) {
        Check.due(name + ", digest", x.digest(), y.digest());
        for (int s = 0; s < 4; s++) {
            for (int form = 0; form < 3; form++) {
                for (int i = 0; i < 5; i++) {
                    Check.due(name + ", get(" + s + ", " + form + ", " + i + ")", x.get(s, form, i), y.get(s, form, i));
                }
            }
        }
        for (int way = 0; way < 3; way++) {
            Check.due(name + ", a run", x.run(way, 9), y.run(way, 9));
            Check.due(name + ", digest of a run", x.digest(), y.digest());
        }
        for (int s = 0; s < 4; s++) Check.due(name + ", lose(" + s + ")", x.lose(s), y.lose(s));
        Check.due(name + ", the text's end", x.type('2'), y.type('2'));
        Check.due(name + ", the text's plan", x.plan(), y.plan());
        Check.same(name + ", the text", Check.planText(x), Check.planText(y));
    }
}
