/** Promises 11 to 16: the three ways to run a plan, and what a run leaves behind. */
public final class RunsTest {
    private static void producers() {
        Ran.all("r-1;2;", "-1 0 1", "0 0 3 4 0 0", "0 0 3 4 0 0", "0 0 3 1 3 0");
        Ran.all("r2;-1;", "", "0 0 0 1 0 0", "0 0 0 1 0 0", "0 0 0 1 0 0");
        Ran.all("s1", "4 -3 0", "0 0 3 4 0 0", "0 0 3 4 0 0", "0 0 3 1 3 0");
        Ran.all("s2", "", "0 0 0 1 0 0", "0 0 0 1 0 0", "0 0 0 1 0 0");
        Ran.due("i5;-2;", 0, 4, "5 3 1 -1", "0 0 4 4 0 0");
        Ran.due("i5;-2;", 1, 4, "5 3 1 -1", "0 0 4 4 0 0");
        Ran.all("xur-1;3;", "0 0 1", "0 0 7 16 0 0", "0 0 7 12 0 0", "0 0 7 6 10 0");
        Ran.all("xvr-1;2;", "-1 0 1", "0 0 6 14 0 0", "0 0 6 10 0 0", "0 0 6 5 9 0");
    }

    private static void limits() {
        Ran.due("r0;9;", 0, 2, "0 1", "0 0 2 2 0 0");
        Ran.due("r0;9;", 1, 2, "0 1", "0 0 2 2 0 0");
        Ran.due("r0;9;", 2, 2, "0 1", "0 0 9 1 9 0");
        Ran.due("r0;9;", 0, 0, "", "0 0 0 0 0 0");
        Ran.due("r0;9;", 1, 0, "", "0 0 0 0 0 0");
        Ran.due("r0;9;", 2, 0, "", "0 0 9 1 9 0");
        Ran.due("s0", 0, 0, "", "0 0 0 0 0 0");
        Ran.due("s0", 1, 0, "", "0 0 0 0 0 0");
        Ran.due("s0", 2, 0, "", "2 0 0 0 0 0");
        Check.due("40 at most", Ran.of("r0;50;", 0, 40).count(2), 40);
        Check.due("40 at most", Ran.of("r0;50;", 1, 40).count(2), 40);
        Check.due("40 at most", Ran.of("r0;50;", 2, 40).count(2), 40);
    }

    private static void changes() {
        Ran.all("+-3;r0;3;", "-3 -2 -1", "0 0 3 8 0 0", "0 0 3 4 0 0", "0 0 3 2 6 0");
        Ran.all("*-3;r0;3;", "0 -3 -6", "0 0 3 8 0 0", "0 0 3 4 0 0", "0 0 3 2 6 0");
        Ran.all("/-7;r2;4;", "-3 -2", "0 0 2 6 0 0", "0 0 2 3 0 0", "0 0 2 2 4 0");
        Ran.all("/7;r-3;-1;", "-2 -3", "0 0 2 6 0 0", "0 0 2 3 0 0", "0 0 2 2 4 0");
        Ran.all("%3;r-4;2;", "2 0 1 2 0 1", "0 0 6 14 0 0", "0 0 6 7 0 0", "0 0 6 2 12 0");
        Ran.all("l7r5;7;", "5 6", "0 0 2 6 0 2", "0 0 2 3 0 2", "0 0 2 2 4 2");
        Ran.all("*9999;*9999;r21;23;", "2099580021 -2095407274",
            "0 0 2 9 0 0", "0 0 2 3 0 0", "0 0 2 3 6 0");
        Ran.all("z+*9999;*9999;r21;22;*9999;*9999;r21;22;", "-95807254",
            "0 0 2 11 0 0", "0 0 2 3 0 0", "0 0 2 7 7 0");
    }

    private static void filters() {
        Ran.all("?>1;r0;4;", "2 3", "0 0 4 8 0 0", "0 0 4 5 0 0", "0 0 4 2 6 0");
        Ran.all("?<1;r0;4;", "0", "0 0 4 7 0 0", "0 0 4 5 0 0", "0 0 4 2 5 0");
        Ran.all("?=1;r0;4;", "1", "0 0 4 7 0 0", "0 0 4 5 0 0", "0 0 4 2 5 0");
        Ran.all("k2;r-2;3;", "-2 0 2", "0 0 5 10 0 0", "0 0 5 6 0 0", "0 0 5 2 8 0");
        Ran.all("w<2;r0;9;", "0 1", "0 0 3 6 0 0", "0 0 3 3 0 0", "0 0 9 2 11 0");
        Ran.all("w>2;r0;9;", "", "0 0 1 2 0 0", "0 0 1 1 0 0", "0 0 9 2 9 0");
        Ran.all("w=4;s1", "4", "0 0 2 4 0 0", "0 0 2 2 0 0", "0 0 3 2 4 0");
        Ran.all("w<9;r0;2;", "0 1", "0 0 2 6 0 0", "0 0 2 3 0 0", "0 0 2 2 4 0");
        Ran.all("t2;r0;9;", "0 1", "0 0 2 5 0 0", "0 0 2 3 0 0", "0 0 9 2 11 0");
        Ran.all("t9;r0;2;", "0 1", "0 0 2 6 0 0", "0 0 2 3 0 0", "0 0 2 2 4 0");
        Ran.all("t0;s1", "", "0 0 0 1 0 0", "0 0 0 1 0 0", "0 0 3 2 3 0");
        Ran.all("d2;r0;3;", "2", "0 0 3 6 0 0", "0 0 3 4 0 0", "0 0 3 2 4 0");
        Ran.all("d3;r0;3;", "", "0 0 3 5 0 0", "0 0 3 4 0 0", "0 0 3 2 3 0");
        Ran.all("d5;r0;3;", "", "0 0 3 5 0 0", "0 0 3 4 0 0", "0 0 3 2 3 0");
        Ran.all("d0;r0;2;", "0 1", "0 0 2 6 0 0", "0 0 2 3 0 0", "0 0 2 2 4 0");
    }

    private static void twoPipes() {
        Ran.all("cr0;1;r5;6;", "0 5", "0 0 2 7 0 0", "0 0 2 4 0 0", "0 0 2 3 4 0");
        Ran.all("cr0;0;s1", "4 -3 0", "0 0 3 9 0 0", "0 0 3 5 0 0", "0 0 3 3 6 0");
        Ran.all("z+r0;2;r5;9;", "5 7", "0 0 4 8 0 0", "0 0 4 5 0 0", "0 0 6 3 8 0");
        Ran.all("z*r2;9;r5;6;", "10", "0 0 3 6 0 0", "0 0 3 4 0 0", "0 0 8 3 9 0");
        Ran.all("z<s1r0;3;", "0 -3 0", "0 0 6 11 0 0", "0 0 6 7 0 0", "0 0 6 3 9 0");
    }

    private static void openings() {
        Ran.all("xur0;4;", "0 0 1 0 1 2", "0 0 10 22 0 0", "0 0 10 15 0 0", "0 0 10 6 16 0");
        // Each opening begins anew: t, d, w, c and z of a Q forget the one before.
        Ran.all("xt1;ur2;5;", "0 0 0", "0 0 6 17 0 0", "0 0 6 10 0 0", "0 0 12 8 18 0");
        Ran.all("xd1;ur2;4;", "1 1 2", "0 0 7 19 0 0", "0 0 7 10 0 0", "0 0 7 6 13 0");
        Ran.all("xw<1;ur2;4;", "0 0", "0 0 6 14 0 0", "0 0 6 7 0 0", "0 0 7 6 11 0");
        Ran.all("xcvvr2;4;", "2 2 3 3", "0 0 6 22 0 0", "0 0 6 11 0 0", "0 0 6 8 14 0");
        Ran.all("xz+vur1;3;", "1 2", "0 0 6 16 0 0", "0 0 6 9 0 0", "0 0 7 8 11 0");
        // A P within a Q belongs to the outer x, a Q within it to itself.
        Ran.all("xxuur3;4;", "0 0 1", "0 0 7 20 0 0", "0 0 7 12 0 0", "0 0 7 7 13 0");
        Ran.all("xxvur3;4;", "0 1 2", "0 0 7 20 0 0", "0 0 7 12 0 0", "0 0 7 7 13 0");
    }

    private static void zeroFailures() {
        Ran.due("/5;r0;3;", 0, 40, "", "1 0 1 2 0 0");
        Ran.due("/5;r0;3;", 1, 40, "", "1 0 1 1 0 0");
        Ran.due("/5;r0;3;", 2, 40, "", "1 0 3 1 3 0");
        Ran.due("/6;l4r-2;2;", 0, 40, "-3 -6", "1 0 3 9 0 3");
        Ran.due("/6;l4r-2;2;", 1, 40, "-3 -6", "1 0 3 3 0 3");
        Ran.due("/6;l4r-2;2;", 2, 40, "", "1 0 4 2 8 4");
        Ran.due("l4/6;r-2;2;", 2, 40, "", "1 0 4 1 4 0");
        Ran.due("/0;r1;2;", 0, 40, "0", "0 0 1 4 0 0");
        for (int way = 0; way < 3; way++) {
            Check.due("depth 1", Ran.of("x/1;vr0;2;", way, 9).failure(1), 1);
            Check.due("depth 2", Ran.of("xx/1;vvr0;1;", way, 9).failure(1), 2);
            Check.due("in the P of an x in a Q", Ran.of("xxv/1;vr0;1;", way, 9).failure(1), 1);
            Check.due("in P", Ran.of("xv/1;r0;1;", way, 9).failure(1), 0);
            Check.due("zero", Ran.of("xv/1;r0;1;", way, 9).failure(0), 1);
        }
    }

    private static void lostFailures() {
        Ran.due("cr0;1;s0", 0, 40, "0", "2 0 1 5 0 0");
        Ran.due("cr0;1;s0", 1, 40, "0", "2 0 1 3 0 0");
        Ran.due("cr0;1;s0", 2, 40, "", "2 0 1 1 1 0");
        Ran.due("cr0;1;s0", 0, 1, "0", "0 0 1 2 0 0");
        Ran.due("t0;s0", 0, 40, "", "0 0 0 1 0 0");
        Ran.due("t0;s0", 1, 40, "", "0 0 0 1 0 0");
        Ran.due("t0;s0", 2, 40, "", "2 0 0 0 0 0");
        Ran.due("xs3r1;3;", 0, 5, "", "2 1 1 3 0 0");
        Ran.due("xs3r1;3;", 1, 5, "", "2 1 1 2 0 0");
        Ran.due("xs3r1;3;", 2, 5, "", "2 1 2 1 2 0");
        Ran.due("xs3r1;1;", 2, 5, "", "0 0 0 2 0 0");
    }

    private static void spentFailures() {
        Ran.due("?<0;i0;1;", 0, 40, "", "3 0 500 502 0 0");
        Ran.due("?<0;i0;1;", 1, 40, "", "3 0 500 501 0 0");
        Ran.due("x?<0;i0;1;r5;6;", 0, 40, "", "3 0 500 503 0 0");
        Ran.due("?<0;r0;500;", 0, 40, "", "0 0 500 502 0 0");
        Ran.due("?<0;r0;500;", 1, 40, "", "0 0 500 501 0 0");
        Ran.due("?<0;r0;501;", 1, 40, "", "3 0 500 501 0 0");
        Ran.due("?>498;i0;1;", 0, 40, "499", "3 0 500 503 0 0");
        Ran.due("x?<0;r0;49;r0;10;", 2, 40, "", "0 0 500 22 500 0");
        Ran.due("x?<0;r0;50;r0;10;", 2, 40, "", "3 0 500 19 460 0");
    }

    private static void longFailures() {
        Ran.due("r0;60;", 2, 1, "0", "0 0 60 1 60 0");
        Ran.due("r0;61;", 2, 1, "", "4 0 0 0 0 0");
        Ran.due("r-9999;9999;", 2, 1, "", "4 0 0 0 0 0");
        Ran.due("xr0;61;r0;1;", 2, 1, "", "4 1 1 1 1 0");
        Ran.due("xur61;62;", 2, 1, "", "4 1 1 1 1 0");
        Ran.due("xur60;61;", 2, 1, "0", "0 0 61 3 121 0");
        Ran.due("cr0;30;r0;30;", 2, 1, "0", "0 0 60 3 120 0");
        Ran.due("cr0;30;r0;31;", 2, 1, "", "4 0 61 2 61 0");
        Ran.due("xcr0;30;r0;31;r0;1;", 2, 1, "", "4 1 62 3 62 0");
        Ran.due("xr0;20;r0;3;", 2, 1, "0", "0 0 63 5 123 0");
        Ran.due("xr0;31;r0;3;", 2, 1, "", "4 0 65 3 65 0");
        Ran.due("xxr0;31;r0;3;r0;3;", 2, 1, "", "4 1 68 4 68 0");
        // An array that is too long is told before its numbers are drawn, also if they are too many.
        Ran.due("cx?<0;r0;49;r0;10;r0;61;", 2, 1, "", "4 0 500 22 500 0");
        Ran.due("cx?<0;r0;49;r0;10;r0;60;", 2, 1, "", "3 0 500 22 500 0");
    }

    /** The same plan run again, in each way behind each way: nothing of the run before stays. */
    private static void runsAgain() {
        String[] pipes = {"z+cr0;1;r3;9;d1;r0;7;", "xud1;w<4;t3;r1;9;", "/6;l4r-2;2;", "cxvt2;r0;9;s0"};
        for (String pipe : pipes) {
            StreamFuser x = Ran.of(pipe, 0, 0);
            for (int turn = 0; turn < 18; turn++) {
                int way = turn / 2 % 3;
                int limit = turn % 4 + 1;
                StreamFuser fresh = Ran.of(pipe, way, limit);
                x.run(way, limit);
                Check.same("again: " + pipe, Check.results(x), Check.results(fresh));
                Check.same("again, figures: " + pipe, Check.figures(x), Check.figures(fresh));
                Check.same("again, pairs: " + pipe, Check.pairs(x), Check.pairs(fresh));
            }
        }
        StreamFuser x = Ran.of("/6;l4r-2;2;", 2, 9);
        Check.replan(x, "r0;1;");
        x.run(1, 9);
        Check.same("a failure does not stay", Check.figures(x), "0 0 1 2 0 0");
    }

    /** The deepest plans that a text of 40 bytes can tell. */
    private static void deepPlans() {
        StringBuilder opened = new StringBuilder();
        for (int i = 0; i < 18; i++) opened.append('x');
        opened.append("s0");
        for (int i = 0; i < 17; i++) opened.append('v');
        opened.append("s1");
        for (int way = 0; way < 3; way++) {
            StreamFuser x = Ran.of(opened.toString(), way, 40);
            Check.due("lost in 18 x", x.failure(0), 2);
            Check.due("depth in way " + way, x.failure(1), 18);
            Check.due("deepest", x.count(7), 18);
            x.sheet(0, 2, 2);
            Check.due("a way through", x.run(way, 40), 6);
        }
        StringBuilder chained = new StringBuilder();
        for (int i = 0; i < 19; i++) chained.append("l").append(i % 10);
        chained.append("s1");
        for (int way = 0; way < 3; way++) {
            StreamFuser x = Ran.of(chained.toString(), way, 40);
            Check.same("through 19 nodes", Check.results(x), "4 -3 0");
            Check.due("pairs", x.told(3), 57);
        }
    }

    private static void runErrors() {
        StreamFuser x = new StreamFuser();
        Check.due("run(0, 1) without a plan", x.run(0, 1), StreamFuser.NOT);
        Check.due("run(-1, 1) without a plan", x.run(-1, 1), StreamFuser.BAD);
        Check.due("run(0, 41) without a plan", x.run(0, 41), StreamFuser.BAD);
        Check.replan(x, "l3r0;5;");
        Check.due("run", x.run(0, 3), 3);
        Check.replan(x, "xi0;1;r0;0;");
        Check.due("run(2, 1) with an i", x.run(2, 1), StreamFuser.NOT);
        Check.due("run(3, 1)", x.run(3, 1), StreamFuser.BAD);
        Check.due("run(-1, 1)", x.run(-1, 1), StreamFuser.BAD);
        Check.due("run(2, -1)", x.run(2, -1), StreamFuser.BAD);
        Check.due("run(2, 41)", x.run(2, 41), StreamFuser.BAD);
        Check.same("the result stays", Check.results(x), "0 1 2");
        Check.same("the figures stay", Check.figures(x), "0 0 3 6 0 3");
        Check.same("the pairs stay", Check.pairs(x), "3:0 3:1 3:2");
        Check.due("run(1, 1) with an i", x.run(1, 1), 0);
        Check.same("a run begins anew", Check.figures(x), "0 0 0 1 0 0");
        Check.due("tidy", x.tidy(0), 1);
        Check.due("run(2, 1) without the i", x.run(2, 1), 0);
    }

    private static void answers() {
        StreamFuser x = Ran.of("*9999;*9999;r20;23;", 1, 40);
        Check.due("result(0)", x.result(0), 1999600020L);
        Check.due("result(2)", x.result(2), -2095407274L);
        Check.due("result(3)", x.result(3), Check.BAD_LONG);
        Check.due("result(-1)", x.result(-1), Check.BAD_LONG);
        Check.due("fold(0)", x.fold(0), 1999600020L + 2099580021L - 2095407274L);
        Check.due("fold(1)", x.fold(1), 2099580021L);
        Check.due("fold(2)", x.fold(2), -2095407274L);
        Check.due("fold(3)", x.fold(3), Check.BAD_LONG);
        Check.due("fold(-1)", x.fold(-1), Check.BAD_LONG);
        x.run(0, 2);
        Check.due("a sum above int", x.fold(0), 4099180041L);
        x.run(0, 0);
        Check.due("fold(0) of nothing", x.fold(0), 0);
        Check.due("fold(1) of nothing", x.fold(1), Check.NOT_LONG);
        Check.due("fold(2) of nothing", x.fold(2), Check.NOT_LONG);
        Check.due("fold(3) of nothing", x.fold(3), Check.BAD_LONG);
        Check.due("result(0) of nothing", x.result(0), Check.BAD_LONG);
        Check.due("failure(-1)", x.failure(-1), StreamFuser.BAD);
        Check.due("failure(2)", x.failure(2), StreamFuser.BAD);
        Check.due("told(-1)", x.told(-1), StreamFuser.BAD);
        Check.due("told(4)", x.told(4), StreamFuser.BAD);
        x = Ran.of("i5;-2;", 0, 3);
        Check.due("the greatest is the first", x.fold(1), 5);
        Check.due("the smallest is the last", x.fold(2), 1);
        Check.due("fold(1) of negatives", Ran.of("r-5;-2;", 0, 9).fold(1), -3);
        Check.due("fold(2) of positives", Ran.of("r5;8;", 0, 9).fold(2), 5);
    }

    private static void pairs() {
        StreamFuser x = Ran.of("t1;l2+10;l3r0;3;", 0, 9);
        Check.same("in the order in which they pass", Check.pairs(x), "3:0 2:10");
        x.run(1, 9);
        Check.same("also by steps", Check.pairs(x), "3:0 2:10");
        x.run(2, 9);
        Check.same("by arrays, a whole node at once", Check.pairs(x), "3:0 3:1 3:2 2:10 2:11 2:12");
        Check.due("written(5, 2)", x.written(5, 2), Check.BAD_LONG);
        Check.due("written(5, -1)", x.written(5, -1), Check.BAD_LONG);
        Check.due("written(6, 0)", x.written(6, 0), Check.BAD_LONG);
        Check.due("written(-1, 0)", x.written(-1, 0), Check.BAD_LONG);
        x = Ran.of("?<0;l1r-45;1;", 2, 0);
        Check.due("all are counted", x.told(3), 46);
        Check.due("the 40th is kept", x.written(39, 1), -6);
        Check.due("the 41st is not", x.written(40, 1), Check.BAD_LONG);
        Check.same("P before Q", Check.pairs(Ran.of("z+l1r0;1;l2r0;1;", 2, 9)), "1:0 2:0");
        Check.same("P before Q, anew each time", Check.pairs(Ran.of("xl1vl2r3;5;", 2, 9)), "2:3 2:4 1:3 1:4");
        Check.same("as they are asked for", Check.pairs(Ran.of("xl1vl2r3;5;", 0, 9)), "2:3 1:3 2:4 1:4");
    }

    public static void main(String[] args) {
        producers();
        limits();
        changes();
        filters();
        twoPipes();
        openings();
        zeroFailures();
        lostFailures();
        spentFailures();
        longFailures();
        runsAgain();
        deepPlans();
        runErrors();
        answers();
        pairs();
        Check.end("RunsTest");
    }
}
