/** Promises 8 to 10, and the part RULES: each sentence that names a boundary case, on both sides of its edge. */
public final class EdgesOfRulesTest {
    private static final int NO_INT = Integer.MIN_VALUE;
    private static final int MAX = Integer.MAX_VALUE;

    private static String counts(StreamFuser x) {
        StringBuilder out = new StringBuilder();
        for (int k = 0; k <= 12; k++) {
            if (x.rules(k) != 0) out.append(out.length() == 0 ? "" : " ").append(k).append(':').append(x.rules(k));
        }
        return out.toString();
    }

    /** What becomes of a pipe in this mode, and how often which rules were applied. */
    private static void mode(int how, String pipe, String want, String rules) {
        StreamFuser x = Check.planned(pipe);
        int applied = x.tidy(how);
        Check.same("tidy(" + how + ") of " + pipe, Check.planText(x), want);
        Check.same("rules of tidy(" + how + ") of " + pipe, counts(x), rules);
        int total = 0;
        for (int k = 0; k <= 12; k++) total += x.rules(k);
        Check.due("how often, for " + pipe, applied, total);
    }

    private static void both(String pipe, String want, String rules) {
        mode(0, pipe, want, rules);
        mode(1, pipe, want, rules);
    }

    private static void stays(String... pipes) {
        for (String pipe : pipes) both(pipe, pipe, "");
    }

    // ---- the rules

    private static void ranges() {
        Check.says(8, "Nil is r with a = 0 and b = 0.");
        stays("r0;0;", "i0;0;", "cr0;1;i0;0;", "xr0;0;s0", "+1;r-1;0;");
        both("+1;r0;0;", "r0;0;", "11:1");

        Check.says(8, "0: r with b not greater than a, which is not nil: nil.");
        both("r7;6;", "r0;0;", "0:1");
        both("r7;7;", "r0;0;", "0:1");
        stays("r7;8;");
        both("r0;-1;", "r0;0;", "0:1");
        both("r1;0;", "r0;0;", "0:1");
        both("r-1;-1;", "r0;0;", "0:1");
        both("r9999;-9999;", "r0;0;", "0:1");
        stays("r0;0;", "r0;1;", "r-1;0;");
        both("xr3;3;r4;4;", "r0;0;", "0:2 11:1");

        Check.says(8, "6: t of r: r of a and the smaller one of b and a + n.");
        both("t2;r5;8;", "r5;7;", "6:1");
        both("t3;r5;8;", "r5;8;", "6:1");
        both("t4;r5;8;", "r5;8;", "6:1");
        both("t1;r-9999;9999;", "r-9999;-9998;", "6:1");
        both("t0;r5;8;", "r0;0;", "0:1 6:1");
        both("t1;r0;0;", "r0;0;", "6:1");
        both("t0;r0;0;", "r0;0;", "6:1");

        Check.says(8, "7: d of r: r of the smaller one of b and a + n, and b.");
        both("d2;r5;8;", "r7;8;", "7:1");
        both("d3;r5;8;", "r0;0;", "0:1 7:1");
        both("d4;r5;8;", "r0;0;", "0:1 7:1");
        both("d0;r5;8;", "r5;8;", "7:1");
        both("d5;r-5;0;", "r0;0;", "7:1");
        both("d1;r0;0;", "r0;0;", "7:1");
        both("d0;r0;0;", "r0;0;", "7:1");

        Check.says(8, "8: d of i: i of a + n * b (with overflow) and b.");
        both("d0;i5;3;", "i5;3;", "8:1");
        both("d1;i5;3;", "i8;3;", "8:1");
        both("d99;i9999;9999;", "i999900;9999;", "8:1");
        both("d99;i-9999;-9999;", "i-999900;-9999;", "8:1");
        both("d9;i5;0;", "i5;0;", "8:1");
        stays("t1;i5;3;");
    }

    private static void takesAndDrops() {
        Check.says(8, "1: t of t: one t with the smaller one of both numbers.");
        both("t4;t5;s0", "t4;s0", "1:1");
        both("t5;t5;s0", "t5;s0", "1:1");
        both("t5;t4;s0", "t4;s0", "1:1");
        both("t99;t1;s0", "t1;s0", "1:1");
        mode(0, "t0;t1;s0", "r0;0;", "1:1 9:1");
        mode(1, "t1;t0;s0", "r0;0;", "6:1 9:1");
        mode(0, "t1;t0;s0", "r0;0;", "1:1 9:1");

        Check.says(8, "2: d of d: one d with the sum of both numbers.");
        both("d4;d5;s0", "d9;s0", "2:1");
        both("d99;d1;s0", "d100;s0", "2:1");
        both("d99;d99;d99;s0", "d297;s0", "2:2");
        both("d0;d5;s0", "d5;s0", "2:1");
        mode(0, "d5;d0;s0", "d5;s0", "2:1");
        mode(1, "d5;d0;s0", "d5;s0", "10:1");
    }

    /** No other node than these three lets t and d through. */
    private static void staysBehind(String cut) {
        for (String one : new String[] {"/1;", "l0", "?<1;", "k1;", "w<1;"}) stays(cut + one + "s0", one + cut + "s0");
        stays(cut + "cs0s1", cut + "z+s0s1", cut + "xvs0", cut + "s0");
    }

    private static void takesAndDropsOfChanges() {
        Check.says(8, "3: t of + * or %: this one of the t.");
        both("t1;+2;s0", "+2;t1;s0", "3:1");
        both("t1;*2;s0", "*2;t1;s0", "3:1");
        both("t1;%2;s0", "%2;t1;s0", "3:1");
        both("t1;+1;*2;%3;s0", "+1;*2;%3;t1;s0", "3:3");
        both("t0;+1;s0", "r0;0;", "3:1 9:1 11:1");
        staysBehind("t1;");

        Check.says(8, "4: d of + * or %: this one of the d.");
        both("d1;+2;s0", "+2;d1;s0", "4:1");
        both("d1;*2;s0", "*2;d1;s0", "4:1");
        both("d1;%2;s0", "%2;d1;s0", "4:1");
        both("d1;+1;*2;%3;s0", "+1;*2;%3;d1;s0", "4:3");
        both("d0;+1;s0", "+1;s0", "4:1 10:1");
        staysBehind("d1;");
        stays("+1;d1;s0", "*1;t1;s0", "t1;d1;s0");
    }

    private static void dropsOfTakes() {
        Check.says(8, "5: d of t of a pure P: t of d of P, where the number of the t becomes m - n, but at least 0, "
            + "and that of the d stays n.");
        both("d4;t5;k2;i0;1;", "t1;d4;k2;i0;1;", "5:1");
        both("d5;t5;k2;i0;1;", "r0;0;", "5:1 9:1");
        both("d6;t5;k2;i0;1;", "r0;0;", "5:1 9:1");
        both("d99;t1;k2;i0;1;", "r0;0;", "5:1 9:1");
        both("d0;t5;k2;i0;1;", "t5;k2;i0;1;", "5:1 10:1");
        both("d1;t3;i5;2;", "t2;i7;2;", "5:1 8:1");
        both("d1;t3;xui0;1;", "t2;d1;xui0;1;", "5:1");
        stays("d1;t3;s0", "d1;t3;k2;s0", "d1;t3;/1;i1;1;", "d1;t3;l0i1;1;", "d1;t3;xs0i1;1;", "d1;t3;ci1;1;s0");
        mode(0, "d1;t3;z+i1;1;l0i1;1;", "d1;t3;z+i1;1;l0i1;1;", "");
        stays("t3;d1;k2;i0;1;");
        both("d0;t5;s0", "t5;s0", "10:1");
    }

    private static void emptyTakesAndDrops() {
        Check.says(8, "9: t with n = 0: nil.");
        for (String p : new String[] {"s0", "i0;1;", "xus0", "cs0s1", "z+s0s1", "/1;s0", "l0s0", "?<1;s0", "d1;s0"}) {
            both("t0;" + p, "r0;0;", "9:1");
            stays("t1;" + p);
        }

        Check.says(8, "10: d with n = 0: its P.");
        for (String p : new String[] {"s0", "xus0", "cs0s1", "z+s0s1", "/1;s0", "l0s0", "?<1;s0", "t1;s0"}) {
            both("d0;" + p, p, "10:1");
            stays("d1;" + p);
        }
    }

    private static void nilParts() {
        Check.says(8, "11: + * / % l ? k w of nil, x or z whose P is nil: nil.");
        for (String one : new String[] {"+1;", "*1;", "/1;", "%1;", "l1", "?<1;", "?=0;", "k1;", "w>1;"}) {
            both(one + "r0;0;", "r0;0;", "11:1");
            stays(one + "r0;1;", one + "r-1;0;", one + "i0;0;", one + "s0");
            mode(0, one + "r1;1;", "r0;0;", "0:1 11:1");
        }
        for (String sign : new String[] {"+", "*", "<"}) {
            both("z" + sign + "r0;0;s0", "r0;0;", "11:1");
            stays("z" + sign + "s0r0;0;");
            both("z" + sign + "r0;0;r0;0;", "r0;0;", "11:1");
        }
        both("xvr0;0;", "r0;0;", "11:1");
        both("xr0;0;r0;0;", "r0;0;", "11:1");
        stays("xr0;0;s0", "xr0;0;r0;1;");
        for (String p : new String[] {"i0;1;", "xus0", "xvs0", "s0"}) {
            stays("z+" + p + "r0;0;");
            both("z+r0;0;" + p, "r0;0;", "11:1");
        }
        both("xur0;0;", "r0;0;", "11:1");
        for (String pipe : new String[] {"l7r0;0;", "?<5;r0;0;", "w>5;r0;0;", "z*r0;0;s1", "/9;r0;0;", "xvr0;0;"}) {
            StreamFuser x = Check.planned(pipe);
            x.tidy(0);
            int[] nil = {'r', -1, 0, 0, 0, 1};
            for (int what = 0; what <= 5; what++) {
                Check.due("node(0, " + what + ") of nil from " + pipe, x.node(0, what), nil[what]);
            }
            Check.due("nodes of nil from " + pipe, x.count(0), 1);
        }

        Check.says(8, "12: c whose P is nil: its Q; c whose Q is nil: its P.");
        both("cr0;0;s1", "s1", "12:1");
        both("cs1r0;0;", "s1", "12:1");
        both("cr0;0;r0;0;", "r0;0;", "12:1");
        both("cr0;0;l4cs1s2", "l4cs1s2", "12:1");
        both("cl4cs1s2r0;0;", "l4cs1s2", "12:1");
        both("cr0;0;cs0r0;0;", "s0", "12:2");
        stays("cs0s1", "cr0;1;i0;0;", "cr-1;0;s0");
        mode(0, "cr1;1;s0", "s0", "0:1 12:1");
    }

    // ---- which rule, and where

    private static void smallestRule() {
        Check.says(8, "and there it is the rule with the smallest number.");
        mode(0, "t0;t5;s0", "r0;0;", "1:1 9:1");
        mode(0, "d0;d5;s0", "d5;s0", "2:1");
        mode(0, "t0;+1;s0", "r0;0;", "3:1 9:1 11:1");
        mode(0, "d0;+1;s0", "+1;s0", "4:1 10:1");
        mode(0, "d0;t5;xui0;1;", "t5;xui0;1;", "5:1 10:1");
        mode(0, "t0;r1;5;", "r0;0;", "0:1 6:1");
        mode(0, "d0;r1;5;", "r1;5;", "7:1");
        mode(0, "d0;i1;5;", "i1;5;", "8:1");
    }

    private static void firstOrLastNode() {
        Check.says(8, "To simplify the plan means: as long as a rule can be applied at some node, it is applied at "
            + "the first such node in the order of the text (mode 0), or at the last one (mode 1), and there it is "
            + "the rule with the smallest number.");
        mode(0, "d1;t3;r0;9;", "r1;3;", "5:1 6:1 7:1");
        mode(1, "d1;t3;r0;9;", "r1;3;", "6:1 7:1");
        mode(0, "t2;t0;s0", "r0;0;", "1:1 9:1");
        mode(1, "t2;t0;s0", "r0;0;", "6:1 9:1");
        mode(0, "d2;d0;s0", "d2;s0", "2:1");
        mode(1, "d2;d0;s0", "d2;s0", "10:1");
        mode(0, "d1;d2;r0;9;", "r3;9;", "2:1 7:1");
        mode(1, "d1;d2;r0;9;", "r3;9;", "7:2");
        mode(0, "cr0;0;t0;s0", "r0;0;", "9:1 12:1");
        mode(0, "xt0;s0r0;0;", "r0;0;", "11:1");
        mode(1, "xt0;s0r0;0;", "r0;0;", "9:1 11:1");
        mode(0, "t0;xt0;s0s1", "r0;0;", "9:1");
        mode(1, "t0;xt0;s0s1", "r0;0;", "9:2");
        mode(0, "z+r0;0;d0;s0", "r0;0;", "11:1");
        mode(1, "z+r0;0;d0;s0", "r0;0;", "10:1 11:1");
    }

    // ---- promise 8

    private static void tidies() {
        Check.says(8, "Returns how often a rule was applied");
        StreamFuser x = Check.planned("t4;t3;t2;s0");
        Check.due("twice", x.tidy(0), 2);
        Check.due("never", x.tidy(0), 0);
        Check.due("never in the other mode", x.tidy(1), 0);
        Check.due("once", Check.planned("d0;s0").tidy(1), 1);
        Check.due("one node", Check.planned("s0").tidy(0), 0);

        Check.says(8, "`how`: the mode, 0 or 1");
        for (int how = 0; how <= 1; how++) {
            x = Check.planned("t2;t0;s0");
            Check.due("tidy(" + how + ")", x.tidy(how), 2);
            Check.due("rules(6) of mode " + how, x.rules(6), how);
        }

        Check.says(8, "BAD if how is out of range; NOT if there is no plan.");
        for (int how : new int[] {-1, 2, MAX, NO_INT}) {
            x = Check.planned("t4;t3;s0");
            Check.due("tidy(" + how + ")", x.tidy(how), StreamFuser.BAD);
            Check.same("the plan stays", Check.planText(x), "t4;t3;s0");
            Check.due("without a plan: BAD comes first", new StreamFuser().tidy(how), StreamFuser.BAD);
        }
        for (int how = 0; how <= 1; how++) {
            Check.due("tidy(" + how + ") without a plan", new StreamFuser().tidy(how), StreamFuser.NOT);
            Check.due("tidy(" + how + ") with a text alone", Check.typed("d0;s0").tidy(how), StreamFuser.NOT);
        }

        Check.says(8, "Simplifies the plan.");
        x = Check.planned("d2;t5;l1r0;9;");
        Check.due("not behind an l", x.tidy(0), 0);
        x = Check.planned("cd1;r0;3;t0;s0");
        x.run(0, 9);
        String figures = Check.figures(x);
        Check.due("tidy", x.tidy(0), 3);
        Check.due("nodes", x.count(0), 1);
        Check.due("the deepest", x.count(7), 0);
        Check.due("the text stays", x.count(1), 14);
        Check.same("the result stays", Check.results(x), "1 2");
        Check.same("the figures stay", Check.figures(x), figures);
        Check.due("run 2", x.run(2, 9), 2);
        Check.same("the simplified one is run", Check.figures(x), "0 0 2 1 2 0");
        x.plan();
        Check.same("the text makes the former plan again", Check.planText(x), "cd1;r0;3;t0;s0");
    }

    // ---- promise 9

    private static void ruleCounts() {
        Check.says(9, "`k`: number of the rule, 0 to 12");
        String[] pipes = {
            "r1;0;", "t1;t2;s0", "d1;d2;s0", "t1;+1;s0", "d1;+1;s0", "d1;t3;xui0;1;", "t1;r0;3;", "d1;r0;3;",
            "d1;i0;1;", "t0;s0", "d0;s0", "+1;r0;0;", "cr0;0;s0"
        };
        for (int k = 0; k <= 12; k++) {
            StreamFuser x = Check.planned(pipes[k]);
            x.tidy(0);
            for (int other = 0; other <= 12; other++) {
                Check.due("rules(" + other + ") of " + pipes[k], x.rules(other), other == k ? 1 : 0);
            }
            x.tidy(0);
            Check.due("rules(" + k + ") when there is nothing left to do", x.rules(k), 0);
        }

        Check.says(9, "Returns the number, 0 if there was no such call; BAD if k is out of range.");
        for (int k = 0; k <= 12; k++) {
            Check.due("new: rules(" + k + ")", new StreamFuser().rules(k), 0);
            Check.due("planned: rules(" + k + ")", Check.planned("d0;s0").rules(k), 0);
        }
        for (int k : new int[] {-1, 13, 14, MAX, NO_INT}) {
            StreamFuser x = Check.planned("d0;s0");
            Check.due("rules(" + k + ")", x.rules(k), StreamFuser.BAD);
            x.tidy(0);
            Check.due("rules(" + k + ") after a tidy", x.rules(k), StreamFuser.BAD);
        }
    }

    private static void latestTidy() {
        Check.says(9, "Returns how often a rule was applied by the latest call of tidy() that returned no error.");
        StreamFuser x = Check.planned("t3;t2;t1;s0");
        Check.due("refused", x.tidy(2), StreamFuser.BAD);
        Check.due("as if none was", x.rules(1), 0);
        x.tidy(0);
        Check.due("twice", x.rules(1), 2);
        Check.due("refused", x.tidy(-1), StreamFuser.BAD);
        Check.due("still", x.rules(1), 2);
        x.saves(9);
        Check.due("saves() is none", x.rules(1), 2);
        Check.replan(x, "d0;s0");
        Check.due("plan() is none", x.rules(1), 2);
        x.saves(9);
        Check.due("saves() of another plan is none", x.rules(10), 0);
        x.tidy(1);
        Check.due("the latest alone", x.rules(1), 0);
        Check.due("the latest", x.rules(10), 1);
        x.tidy(1);
        Check.due("a tidy without a rule", x.rules(10), 0);
        x = new StreamFuser();
        x.tidy(0);
        Check.due("a tidy without a plan", x.rules(0), 0);
    }

    // ---- promise 10

    private static void saves(String pipe, int limit, int want) {
        Check.due("saves(" + limit + ") of " + pipe, Check.planned(pipe).saves(limit), want);
    }

    private static void savings() {
        Check.says(10, "Returns how many numbers fewer a run in way 0 would draw if the plan were simplified with "
            + "mode 0.");
        saves("d3;i0;1;", 1, 3);
        saves("t3;i0;1;", 40, 0);
        saves("d3;r0;9;", 40, 3);
        saves("d3;t3;r0;9;", 40, 3);
        saves("d4;t3;k2;i0;1;", 40, 5);
        saves("cd1;i0;1;d2;i0;1;", 40, 1);
        saves("xd1;r0;2;r0;3;", 40, 3);
        saves("s0", 40, 0);
        saves("z+r0;3;r0;0;", 40, 0);
        saves("xr0;0;r0;3;", 40, 0);
        saves("z+r0;0;r0;3;", 40, 0);

        Check.says(10, "`limit`: the limit, 0 to 40");
        saves("xd1;r0;2;r0;50;", 0, 0);
        saves("xd1;r0;2;r0;50;", 1, 1);
        saves("xd1;r0;2;r0;50;", 2, 2);
        saves("xd1;r0;2;r0;50;", 39, 39);
        saves("xd1;r0;2;r0;50;", 40, 40);

        Check.says(10, "if a run fails, the numbers drawn until then count.");
        saves("/1;d2;r-2;1;", 40, 2);
        saves("/1;d2;r-2;1;", 1, 2);
        saves("cd2;r0;3;s0", 40, 2);
        saves("s0", 40, 0);
        // 99 six times is more than the 500 that can be drawn.
        saves("d99;d99;d99;d99;d99;d99;i0;1;", 1, 499);
        saves("d99;d99;d99;d99;d99;i0;1;", 5, 495);
        saves("d99;d99;d99;d99;d99;i0;1;", 6, 494);
        saves("?<0;d9;i0;1;", 1, 0);

        Check.says(10, "Returns the difference; Integer.MIN_VALUE if limit is out of range, or there is no plan.");
        for (int limit : new int[] {-1, 41, MAX, NO_INT}) {
            saves("d3;i0;1;", limit, NO_INT);
            Check.due("saves(" + limit + ") of nothing", new StreamFuser().saves(limit), NO_INT);
        }
        for (int limit : new int[] {0, 3, 40}) {
            Check.due("saves(" + limit + ") without a plan", new StreamFuser().saves(limit), NO_INT);
            Check.due("saves(" + limit + ") of a text alone", Check.typed("s0").saves(limit), NO_INT);
        }
    }

    private static void savingChangesNothing() {
        Check.says(10, "Nothing is changed, and no run is recorded");
        for (String pipe : new String[] {"d2;r0;9;", "/1;l2d1;r-1;9;", "cl3d1;r5;7;s1", "t0;s0"}) {
            StreamFuser x = Check.planned("/4;l7r-1;1;");
            x.run(1, 9);
            Check.replan(x, pipe);
            Check.retype(x, "l");
            x.copy(0, 0, 0, 0, 0);
            StreamFuser y = Check.planned("/4;l7r-1;1;");
            y.run(1, 9);
            Check.replan(y, pipe);
            Check.retype(y, "l");
            y.copy(0, 0, 0, 0, 0);
            x.saves(40);
            x.saves(41);
            for (int what = 0; what <= 8; what++) Check.due("count " + what, x.count(what), y.count(what));
            Check.due("digest", x.digest(), y.digest());
            Check.same("the plan", Check.planText(x), pipe);
            Check.same("the result", Check.results(x), "-4");
            Check.same("the pairs", Check.pairs(x), "7:-1 7:0");
            Check.due("tidy", x.tidy(0), y.tidy(0));
            Check.due("digest when simplified", x.digest(), y.digest());
        }
    }

    public static void main(String[] args) {
        ranges();
        takesAndDrops();
        takesAndDropsOfChanges();
        dropsOfTakes();
        emptyTakesAndDrops();
        nilParts();
        smallestRule();
        firstOrLastNode();
        tidies();
        ruleCounts();
        latestTidy();
        savings();
        savingChangesNothing();
        Check.end("EdgesOfRulesTest");
    }
}
