/** Promises 23 and 24: the counts and the digest. */
public final class CountsTest {
    private static void counts(String when, StreamFuser x, int... want) {
        for (int what = 0; what < want.length; what++) {
            Check.due(when + ": count(" + what + ")", x.count(what), want[what]);
        }
    }

    private static void counting() {
        StreamFuser x = new StreamFuser();
        counts("new", x, 0, 0, 0, 0, 0, 0, 0, -1, 0);
        Check.retype(x, "t3;l5+0;r0;9;");
        counts("typed", x, 0, 13, 0, 0, 0, 0, 0, -1, 0);
        x.plan();
        counts("planned", x, 4, 13, 0, 0, 0, 0, 0, 3, 0);
        x.run(0, 40);
        counts("run", x, 4, 13, 3, 0, 3, 3, 0, 3, 0);
        x.wipe();
        counts("wiped", x, 4, 0, 3, 0, 3, 3, 0, 3, 0);
        x.lose(2);
        counts("found", x, 4, 0, 3, 0, 3, 3, 0, 3, 1);
        Check.replan(x, "cr0;0;cs0t0;s1");
        x.tidy(1);
        counts("simplified", x, 1, 14, 3, 0, 3, 3, 3, 0, 1);
        x.run(1, 9);
        counts("failed", x, 1, 14, 0, 2, 0, 0, 3, 0, 1);
        Check.due("count(-1)", x.count(-1), StreamFuser.BAD);
        Check.due("count(9)", x.count(9), StreamFuser.BAD);
        Check.due("the deepest is not the last", Check.planned("cl1l1s0s0").count(7), 3);
    }

    private static long hash;

    private static void mix(long answer) {
        hash = hash * 31 + answer;
    }

    /** The digest as the document tells it, from the answers of the other methods. */
    private static void digest(String when, StreamFuser x) {
        hash = 17;
        for (int what = 0; what <= 7; what++) mix(x.count(what));
        mix(x.fault());
        for (int k = 0; k < x.count(0); k++) for (int what = 0; what <= 5; what++) mix(x.node(k, what));
        mix(x.text(StreamFuser.NONE));
        if (x.count(0) > 0) for (int n = 0; n < x.text(StreamFuser.NONE); n++) mix(x.text(n));
        for (int k = 0; k <= 12; k++) mix(x.rules(k));
        for (int i = 0; i < x.count(2); i++) mix(x.result(i));
        for (int what = 0; what <= 2; what++) mix(x.fold(what));
        for (int what = 0; what <= 1; what++) mix(x.failure(what));
        for (int what = 0; what <= 3; what++) mix(x.told(what));
        for (int i = 0; i < Math.min(40, x.told(3)); i++) for (int what = 0; what <= 1; what++) mix(x.written(i, what));
        mix(x.saves(3));
        Check.due("digest, " + when, x.digest(), hash);
        Check.due("digest again, " + when, x.digest(), hash);
    }

    private static void digesting() {
        digest("new", new StreamFuser());
        digest("no pipe", Check.typed("t1;u"));
        digest("one node", Check.planned("r-1;2;"));
        StreamFuser x = Check.typed("d2;l7r0;9;");
        digest("typed", x);
        x.plan();
        digest("planned", x);
        x.run(0, 40);
        digest("run", x);
        x = Check.planned("?<0;l7r0;45;");
        x.run(1, 4);
        digest("more pairs than are kept", x);
        x = Check.planned("x/1;cs0vd3;t9;i-2;1;");
        x.run(0, 5);
        digest("lost", x);
        x.sheet(0, 0, 0);
        x.run(0, 5);
        digest("divided", x);
        x.tidy(0);
        digest("simplified", x);
        long before = x.digest();
        x.get(3, 0, 0);
        Check.due("a finding is not in it", x.digest(), before);
    }

    /** From the numbers that the document gives, without asking the object for them. */
    private static void digestOfNewObject() {
        hash = 17;
        for (int what = 0; what <= 6; what++) mix(0);
        mix(-1);
        mix(0);
        mix(-2);
        for (int k = 0; k <= 12; k++) mix(0);
        mix(0);
        mix(Check.NOT_LONG);
        mix(Check.NOT_LONG);
        for (int i = 0; i < 6; i++) mix(0);
        mix(Integer.MIN_VALUE);
        Check.due("digest of a new object", new StreamFuser().digest(), hash);
    }

    public static void main(String[] args) {
        counting();
        digesting();
        digestOfNewObject();
        Check.end("CountsTest");
    }
}
