/** Promises 23 and 24: each sentence that names a boundary case, on both sides of its edge. */
public final class EdgesOfCountsTest {
    private static final int NO_INT = Integer.MIN_VALUE;
    private static final int MAX = Integer.MAX_VALUE;

    // ---- promise 23

    private static void countsOfThePlan() {
        Check.says(23, "0: nodes of the plan, 0 if there is none");
        Check.due("none", new StreamFuser().count(0), 0);
        Check.due("a text alone", Check.typed("s0").count(0), 0);
        StreamFuser x = Check.planned("s0");
        Check.due("one", x.count(0), 1);
        Check.retype(x, "l");
        x.plan();
        Check.due("no pipe", x.count(0), 1);
        x.wipe();
        Check.due("wiped", x.count(0), 1);
        x = Check.planned("x" + "c".repeat(18) + "u".repeat(19) + "s0");
        Check.due("as many as there can be", x.count(0), 39);
        x = Check.planned("t0;ccs0s1s2");
        x.tidy(0);
        Check.due("simplified", x.count(0), 1);

        Check.says(23, "1: bytes of the text");
        Check.due("new", new StreamFuser().count(1), 0);
        x = Check.typed("!");
        Check.due("one", x.count(1), 1);
        x.wipe();
        Check.due("wiped", x.count(1), 0);
        x = Check.typed("!".repeat(41));
        Check.due("full", x.count(1), 40);
        x = Check.planned("t1;t2;s0");
        x.tidy(0);
        Check.due("the text is not simplified", x.count(1), 8);

        Check.says(23, "6: how often rules were applied by the latest tidy()");
        Check.due("without one", Check.planned("t1;t2;s0").count(6), 0);
        x = Check.planned("t1;t2;t3;+1;s0");
        x.saves(9);
        Check.due("saves() is none", x.count(6), 0);
        x.tidy(0);
        Check.due("in all", x.count(6), 3);
        x.tidy(2);
        Check.due("a refused one is none", x.count(6), 3);
        x.plan();
        Check.due("a new plan", x.count(6), 3);
        x.tidy(1);
        x.tidy(1);
        Check.due("the latest", x.count(6), 0);

        Check.says(23, "7: the greatest number of nodes that a node of the plan is within, NONE if there is no plan");
        Check.due("none", new StreamFuser().count(7), StreamFuser.NONE);
        Check.due("a text alone", Check.typed("s0").count(7), StreamFuser.NONE);
        Check.due("one node", Check.planned("s0").count(7), 0);
        Check.due("two nodes", Check.planned("t1;s0").count(7), 1);
        Check.due("in Q", Check.planned("xl1l1vs0").count(7), 3);
        Check.due("in P", Check.planned("xvl1l1s0").count(7), 3);
        Check.due("in the middle", Check.planned("cl1cs0l1s1s2").count(7), 4);
        Check.due("the deepest of 40 bytes", Check.planned("l0".repeat(19) + "s0").count(7), 19);
        Check.due("the deepest of 40 bytes", Check.planned("x".repeat(19) + "v".repeat(19) + "s0").count(7), 19);
    }

    /** The counts 2 to 5. */
    private static void counts(String when, StreamFuser x, int... want) {
        for (int i = 0; i < 4; i++) Check.due("count(" + (i + 2) + "), " + when, x.count(i + 2), want[i]);
    }

    private static void countsOfTheRun() {
        Check.says(23, "2: numbers of the result; 3: the failure of the latest run, 0 if there was none; 4: pairs "
            + "written down in it; 5: numbers drawn in it");
        String[] pipes = {"?<45;l1r0;50;", "/5;l1s0", "?<0;l1i0;1;", "xs0r0;1;", "l1/5;r-1;3;", "l1r0;0;", "l2r0;61;"};
        // For each pipe and each way: 2, 3, 4, 5.
        int[][] dues = {
            {40, 0, 40, 40}, {40, 0, 40, 40}, {40, 0, 50, 50},
            {0, 2, 0, 0}, {0, 2, 0, 0}, {0, 2, 0, 0},
            {0, 3, 500, 500}, {0, 3, 500, 500}, {},
            {0, 2, 0, 1}, {0, 2, 0, 1}, {0, 2, 0, 1},
            {1, 1, 1, 2}, {1, 1, 1, 2}, {0, 1, 0, 4},
            {0, 0, 0, 0}, {0, 0, 0, 0}, {0, 0, 0, 0},
            {40, 0, 40, 40}, {40, 0, 40, 40}, {0, 4, 0, 0}
        };
        for (int n = 0; n < dues.length; n++) {
            if (dues[n].length == 0) continue;
            StreamFuser x = Check.planned(pipes[n / 3]);
            counts("before", x, 0, 0, 0, 0);
            x.run(n % 3, 40);
            String name = " of run(" + n % 3 + ", 40) of " + pipes[n / 3];
            counts("then" + name, x, dues[n]);
            x.run(3, 40);
            x.saves(40);
            Check.retype(x, "s1");
            x.plan();
            counts("it stays" + name, x, dues[n]);
            x.run(0, 0);
            counts("begun anew" + name, x, 0, 0, 0, 0);
        }
    }

    private static void countOfFindings() {
        Check.says(23, "8: the number of the latest finding, 0 if there was none");
        StreamFuser x = new StreamFuser();
        Check.due("none", x.count(8), 0);
        x.sheet(0, 0, 3);
        Check.due("none", x.count(8), 0);
        x.lose(1);
        Check.due("lost", x.count(8), 1);
        x.lay(0, 0, 3, 0);
        Check.due("index", x.count(8), 2);
        x.get(0, 1, 0);
        Check.due("cast", x.count(8), 3);
        x.sheet(1, 1, 3);
        x.copy(0, 0, 1, 0, 0);
        Check.due("store", x.count(8), 4);
        x.sheet(0, 0, -1);
        Check.due("size", x.count(8), 5);
        x.write(2);
        Check.due("lost again", x.count(8), 1);
        x.sheet(0, 0, -1);
        x.lay(0, 0, 0, 1);
        x.get(0, 0, 0);
        x.copy(0, 0, 0, 0, 3);
        x.write(0);
        x.lose(1);
        Check.due("what is well done leaves it", x.count(8), 5);
        x.sheet(4, 0, -1);
        x.lay(0, 3, 0, 0);
        x.run(0, 0);
        Check.due("other errors leave it", x.count(8), 5);
        Check.replan(x, "s3");
        x.run(0, 9);
        Check.due("a failure is no finding", x.count(8), 5);

        Check.says(23, "Returns the count; BAD if what is out of range.");
        for (int what : new int[] {-1, 9, 10, NO_INT, MAX}) {
            Check.due("count(" + what + ")", x.count(what), StreamFuser.BAD);
            Check.due("count(" + what + ") of a new object", new StreamFuser().count(what), StreamFuser.BAD);
        }
    }

    // ---- promise 24

    private static long hash;

    private static void mix(long... results) {
        for (long one : results) hash = 31 * hash + one;
    }

    private static void mixText(String text) {
        mix(text.length());
        for (int i = 0; i < text.length(); i++) mix(text.charAt(i));
    }

    private static void mixRules(int... applied) {
        int[] all = new int[13];
        for (int k : applied) all[k]++;
        for (int times : all) mix(times);
    }

    private static void newDigests() {
        Check.says(24, "It is 17 at first; for each of the following results, in this order, it becomes 31 times "
            + "itself plus the result (long arithmetic with overflow); errors count as they are returned.");
        hash = 17;
        mix(0, 0, 0, 0, 0, 0, 0, -1);
        mix(0);
        mix(-2);
        mixRules();
        mix(0, Check.NOT_LONG, Check.NOT_LONG, 0, 0, 0, 0, 0, 0);
        mix(NO_INT);
        Check.due("new", new StreamFuser().digest(), hash);

        Check.says(24, "text(NONE), and, if there is a plan, text() of all its bytes");
        hash = 17;
        mix(0, 4, 0, 0, 0, 0, 0, -1);
        mix(3);
        mix(-2);
        mixRules();
        mix(0, Check.NOT_LONG, Check.NOT_LONG, 0, 0, 0, 0, 0, 0);
        mix(NO_INT);
        Check.due("a text alone", Check.typed("l9s4").digest(), hash);
    }

    private static void digestsOfRuns() {
        Check.says(24, "count() for 0 to 7; fault(); for each node node() for 0 to 5");
        StreamFuser x = Check.planned("l7r5;6;");
        hash = 17;
        mix(2, 7, 0, 0, 0, 0, 0, 1);
        mix(-1);
        mix('l', 7, 0, 0, 0, 0);
        mix('r', -1, 5, 6, 1, 1);
        mixText("l7r5;6;");
        mixRules();
        mix(0, Check.NOT_LONG, Check.NOT_LONG, 0, 0, 0, 0, 0, 0);
        mix(0);
        Check.due("planned", x.digest(), hash);

        Check.says(24, "result() of all its indices; fold() for 0 to 2; failure(0), failure(1); told() for 0 to 3; "
            + "for each pair that is kept written() for 0 and 1");
        x.run(0, 9);
        hash = 17;
        mix(2, 7, 1, 0, 1, 1, 0, 1);
        mix(-1);
        mix('l', 7, 0, 0, 0, 0);
        mix('r', -1, 5, 6, 1, 1);
        mixText("l7r5;6;");
        mixRules();
        mix(5);
        mix(5, 5, 5, 0, 0, 1, 4, 0, 1);
        mix(7, 5);
        mix(0);
        Check.due("run", x.digest(), hash);

        x = Check.planned("xl1s0r0;2;");
        x.run(2, 9);
        x.wipe();
        hash = 17;
        mix(4, 0, 0, 2, 0, 2, 0, 2);
        mix(0);
        mix('x', -1, 0, 0, 0, 0);
        mix('l', 1, 0, 0, 1, 0);
        mix('s', 0, 0, 0, 2, 0);
        mix('r', -1, 0, 2, 1, 1);
        mixText("xl1s0r0;2;");
        mixRules();
        mix(0, Check.NOT_LONG, Check.NOT_LONG, 2, 1, 2, 1, 2, 0);
        mix(0);
        Check.due("failed", x.digest(), hash);
    }

    private static void digestsOfLongRuns() {
        Check.says(24, "for each pair that is kept written() for 0 and 1");
        for (int pairs : new int[] {39, 40, 41, 60}) {
            String pipe = "l2r0;" + pairs + ";";
            StreamFuser x = Check.planned(pipe);
            x.run(2, 40);
            int size = Math.min(pairs, 40);
            hash = 17;
            mix(2, 8, size, 0, pairs, pairs, 0, 1);
            mix(-1);
            mix('l', 2, 0, 0, 0, 0);
            mix('r', -1, 0, pairs, 1, 1);
            mixText(pipe);
            mixRules();
            for (int i = 0; i < size; i++) mix(i);
            mix(size * (size - 1) / 2, size - 1, 0, 0, 0, pairs, 2, 2 * pairs, pairs);
            for (int i = 0; i < size; i++) mix(2, i);
            mix(0);
            Check.due(pairs + " pairs", x.digest(), hash);
        }
    }

    private static void digestsOfRules() {
        Check.says(24, "rules() for 0 to 12");
        StreamFuser x = Check.planned("d2;i0;1;");
        x.tidy(0);
        hash = 17;
        mix(1, 8, 0, 0, 0, 0, 1, 0);
        mix(-1);
        mix('i', -1, 2, 1, 0, 1);
        mixText("i2;1;");
        mixRules(8);
        mix(0, Check.NOT_LONG, Check.NOT_LONG, 0, 0, 0, 0, 0, 0);
        mix(0);
        Check.due("simplified", x.digest(), hash);

        x = Check.planned("cr0;0;t1;r7;6;");
        x.tidy(1);
        hash = 17;
        mix(1, 14, 0, 0, 0, 0, 3, 0);
        mix(-1);
        mix('r', -1, 0, 0, 0, 1);
        mixText("r0;0;");
        mixRules(0, 6, 12);
        mix(0, Check.NOT_LONG, Check.NOT_LONG, 0, 0, 0, 0, 0, 0);
        mix(0);
        Check.due("the first and the last rule", x.digest(), hash);

        Check.says(24, "saves(3).");
        int[] wants = {3, 3, 2};
        String[] pipes = {"xd1;r0;2;r0;9;", "d3;r0;9;", "xd1;r0;2;r0;2;"};
        for (int i = 0; i < wants.length; i++) {
            x = Check.planned(pipes[i]);
            Check.due("saves(3) of " + pipes[i], x.saves(3), wants[i]);
            long before = x.digest();
            x.run(0, 0);
            Check.due("a run for nothing is not in it", x.digest(), before);
        }
        // One number of each Q is saved, so that each limit saves another number.
        x = Check.planned("xd1;r0;2;r0;9;");
        hash = 17;
        mix(4, 14, 0, 0, 0, 0, 0, 2);
        mix(-1);
        mix('x', -1, 0, 0, 0, 1);
        mix('d', -1, 1, 0, 1, 1);
        mix('r', -1, 0, 2, 2, 1);
        mix('r', -1, 0, 9, 1, 1);
        mixText("xd1;r0;2;r0;9;");
        mixRules();
        mix(0, Check.NOT_LONG, Check.NOT_LONG, 0, 0, 0, 0, 0, 0);
        mix(3);
        Check.due("with savings", x.digest(), hash);
    }

    private static void whatADigestLeaves() {
        Check.says(24, "Returns the hash.");
        StreamFuser x = Refused.object(4);
        long before = x.digest();
        Check.due("a second time", x.digest(), before);
        Check.due("the finding", x.count(8), 4);
        x.lose(3);
        Check.due("findings are not in it", x.digest(), before);
        x.lay(0, 0, 0, 99);
        Check.due("elements that no run asks for are not in it", x.digest(), before);
        x.lay(0, 0, 0, 0);
        x.lose(3);
        StreamFuser y = Refused.object(1);
        Refused.same("digests change nothing", x, y);
    }

    public static void main(String[] args) {
        countsOfThePlan();
        countsOfTheRun();
        countOfFindings();
        newDigests();
        digestsOfRuns();
        digestsOfLongRuns();
        digestsOfRules();
        whatADigestLeaves();
        Check.end("EdgesOfCountsTest");
    }
}
