/** Promises 8 to 10: the rules, how often they were applied, and what they save. */
public final class RulesTest {
    private static String counts(StreamFuser x) {
        StringBuilder out = new StringBuilder();
        for (int k = 0; k < 13; k++) {
            if (x.rules(k) == 0) continue;
            out.append(out.length() == 0 ? "" : " ").append(k).append(':').append(x.rules(k));
        }
        return out.toString();
    }

    /** What becomes of a pipe, and by which rules. */
    private static void mode(int how, String pipe, String want, String rules) {
        StreamFuser x = Check.planned(pipe);
        int applied = x.tidy(how);
        Check.same("mode " + how + ": " + pipe, Check.planText(x), want);
        Check.same("mode " + how + ": rules for " + pipe, counts(x), rules);
        int total = 0;
        for (int k = 0; k < 13; k++) total += x.rules(k);
        Check.due("how often for " + pipe, applied, total);
        Check.due("count(6) for " + pipe, x.count(6), total);
        Check.due("nothing is left of " + pipe, x.tidy(1 - how), 0);
        Check.same("no rule then", counts(x), "");
    }

    private static void both(String pipe, String want, String rules) {
        mode(0, pipe, want, rules);
        mode(1, pipe, want, rules);
    }

    private static void ranges() {
        both("r5;3;", "r0;0;", "0:1");
        both("r5;5;", "r0;0;", "0:1");
        both("r-5;-6;", "r0;0;", "0:1");
        both("r0;0;", "r0;0;", "");
        both("r0;-1;", "r0;0;", "0:1");
        both("r3;4;", "r3;4;", "");
        both("i0;0;", "i0;0;", "");
        both("t2;r5;9;", "r5;7;", "6:1");
        both("t9;r5;9;", "r5;9;", "6:1");
        both("t0;r5;9;", "r0;0;", "0:1 6:1");
        both("d2;r5;9;", "r7;9;", "7:1");
        both("d9;r5;9;", "r0;0;", "0:1 7:1");
        both("d0;r5;9;", "r5;9;", "7:1");
        both("d3;i5;-2;", "i-1;-2;", "8:1");
        both("d0;i5;-2;", "i5;-2;", "8:1");
        both("t3;i5;1;", "t3;i5;1;", "");
    }

    private static void takesAndDrops() {
        both("t3;t2;s0", "t2;s0", "1:1");
        both("t2;t3;s0", "t2;s0", "1:1");
        both("t0;t3;s0", "r0;0;", "1:1 9:1");
        both("d3;d99;s0", "d102;s0", "2:1");
        mode(0, "d0;d0;s0", "s0", "2:1 10:1");
        mode(1, "d0;d0;s0", "s0", "10:2");
        for (String sign : new String[] {"+1;", "*-2;", "%3;"}) {
            both("t4;" + sign + "s0", sign + "t4;s0", "3:1");
            both("d4;" + sign + "s0", sign + "d4;s0", "4:1");
        }
        for (String sign : new String[] {"/1;", "l1", "?<1;", "k2;", "w=3;"}) {
            both("t4;" + sign + "s0", "t4;" + sign + "s0", "");
            both("d4;" + sign + "s0", "d4;" + sign + "s0", "");
        }
        both("t4;d2;s0", "t4;d2;s0", "");
        both("t0;s0", "r0;0;", "9:1");
        both("t0;/1;cs0s1", "r0;0;", "9:1");
        both("d0;s0", "s0", "10:1");
        both("d0;t4;s0", "t4;s0", "10:1");
        both("t1;s0", "t1;s0", "");
        both("d1;s0", "d1;s0", "");
    }

    private static void dropOfTake() {
        both("d2;t5;?<9;i0;1;", "t3;d2;?<9;i0;1;", "5:1");
        both("d5;t5;?<9;i0;1;", "r0;0;", "5:1 9:1");
        both("d7;t5;?<9;i0;1;", "r0;0;", "5:1 9:1");
        both("d2;t5;s0", "d2;t5;s0", "");
        both("d2;t5;/1;i1;1;", "d2;t5;/1;i1;1;", "");
        both("d2;t5;l1i1;1;", "d2;t5;l1i1;1;", "");
        both("d2;t5;ci0;1;s0", "d2;t5;ci0;1;s0", "");
        both("d2;t5;ci0;1;i1;1;", "t3;d2;ci0;1;i1;1;", "5:1");
    }

    private static void nilParts() {
        for (String sign : new String[] {"+1;", "*1;", "/1;", "%1;", "l1", "?<1;", "k1;", "w<1;"}) {
            both(sign + "r0;0;", "r0;0;", "11:1");
        }
        both("z+r0;0;s0", "r0;0;", "11:1");
        both("z+s0r0;0;", "z+s0r0;0;", "");
        both("xvr0;0;", "r0;0;", "11:1");
        both("xr0;0;s0", "xr0;0;s0", "");
        both("cr0;0;s1", "s1", "12:1");
        both("cs1r0;0;", "s1", "12:1");
        both("cr0;0;r0;0;", "r0;0;", "12:1");
        both("ccs1r0;0;xvs2", "cs1xvs2", "12:1");
        both("cxvs2cs1r0;0;", "cxvs2s1", "12:1");
        both("xcur0;0;s0", "xus0", "12:1");
        both("cs0s1", "cs0s1", "");
    }

    /** From the front and from the back other rules come to be applied. */
    private static void modes() {
        mode(0, "d2;t5;r0;20;", "r2;5;", "5:1 6:1 7:1");
        mode(1, "d2;t5;r0;20;", "r2;5;", "6:1 7:1");
        mode(0, "t5;r9;3;", "r0;0;", "0:1 6:1");
        mode(0, "l1+1;t0;s0", "r0;0;", "9:1 11:2");
        mode(1, "l1+1;t0;s0", "r0;0;", "9:1 11:2");
        mode(0, "t2;+1;t0;s0", "r0;0;", "1:1 3:1 9:1 11:1");
        mode(1, "t2;+1;t0;s0", "r0;0;", "6:1 9:1 11:1");
        mode(0, "d2;t5;+1;d3;r0;20;", "+1;r5;8;", "2:1 3:1 4:1 5:1 6:1 7:1");
        mode(1, "d2;t5;+1;d3;r0;20;", "+1;r5;8;", "3:1 4:1 6:1 7:2");
    }

    private static void errors() {
        StreamFuser x = new StreamFuser();
        Check.due("tidy(-1) without a plan", x.tidy(-1), StreamFuser.BAD);
        Check.due("tidy(0) without a plan", x.tidy(0), StreamFuser.NOT);
        Check.due("tidy(1) without a plan", x.tidy(1), StreamFuser.NOT);
        Check.due("rules without a tidy", x.rules(0), 0);
        Check.due("rules(-1)", x.rules(-1), StreamFuser.BAD);
        Check.due("rules(13)", x.rules(13), StreamFuser.BAD);
        Check.replan(x, "t2;t3;s0");
        Check.due("tidy(0)", x.tidy(0), 1);
        Check.due("tidy(2)", x.tidy(2), StreamFuser.BAD);
        Check.due("rules stay after an error", x.rules(1), 1);
        Check.due("tidy(1)", x.tidy(1), 0);
        Check.due("rules of the latest tidy", x.rules(1), 0);
        Check.due("the plan is measured anew", x.count(7), 1);
        for (String pipe : new String[] {"z*r0;0;s1", "l7r0;0;", "?<3;r0;0;"}) {
            Check.replan(x, pipe);
            x.tidy(0);
            for (int what = 1; what <= 5; what++) {
                Check.due("nil from " + pipe, x.node(0, what), what == 1 ? -1 : what == 5 ? 1 : 0);
            }
        }
    }

    private static void saving(String pipe, int limit, int want) {
        StreamFuser x = Check.planned("t1;t2;+1;l5r3;9;");
        x.tidy(0);
        x.run(0, 3);
        Check.replan(x, pipe);
        int[] counts = new int[9];
        for (int what = 0; what < 9; what++) counts[what] = x.count(what);
        String rules = counts(x);
        String figures = Check.figures(x);
        Check.due("saves(" + limit + ") of " + pipe, x.saves(limit), want);
        for (int what = 0; what < 9; what++) Check.due("count " + what + " stays", x.count(what), counts[what]);
        Check.same("the plan stays", Check.planText(x), pipe);
        Check.same("the rules stay", counts(x), rules);
        Check.same("the run stays", Check.figures(x), figures);
        Check.same("the pairs stay", Check.pairs(x), "5:3");
        Check.same("the result stays", Check.results(x), "4");
    }

    private static void savings() {
        saving("d2;t5;+1;d3;r0;20;", 40, 5);
        saving("d2;t5;+1;d3;r0;20;", 0, 0);
        saving("d9;i0;1;", 1, 9);
        saving("r0;9;", 40, 0);
        // The run fails with 500 numbers drawn; simplified, it draws three.
        saving("d99;d99;d99;d99;d99;d99;i0;1;", 3, 497);
        // Both fail: the third number is 0. The one that is simplified draws it as its first one.
        saving("/1;d2;r-2;1;", 40, 2);
        saving("cs0d5;r0;9;", 40, 0);
        saving("t3;d4;i0;0;", 40, 4);
        StreamFuser x = Check.planned("d7;i0;1;");
        Check.retype(x, "d8;i0;1;");
        x.fault();
        Check.due("saves of the plan, not of the text", x.saves(3), 7);
        x.tidy(1);
        Check.due("saves of the plan as it is now", x.saves(3), 0);
        x = new StreamFuser();
        Check.due("saves without a plan", x.saves(3), Integer.MIN_VALUE);
        Check.replan(x, "d3;s2");
        Check.due("saves(-1)", x.saves(-1), Integer.MIN_VALUE);
        Check.due("saves(41)", x.saves(41), Integer.MIN_VALUE);
        Check.due("saves of a lost sheet", x.saves(40), 0);
        Check.due("nothing is found", x.count(8), 0);
        Check.replan(x, "cr0;4;t0;s0");
        Check.due("saves of nothing", x.saves(40), 0);
    }

    public static void main(String[] args) {
        ranges();
        takesAndDrops();
        dropOfTake();
        nilParts();
        modes();
        errors();
        savings();
        Check.end("RulesTest");
    }
}
