/**
 * Promises 11 to 16, and the parts PIPES and RUNS: each sentence that names a boundary case, on both sides of its
 * edge. Figures are: failure, depth, drawn, asked (or steps, or arrays made), elements, pairs.
 */
public final class EdgesOfRunsTest {
    private static final int NO_INT = Integer.MIN_VALUE;
    private static final int MAX = Integer.MAX_VALUE;

    // ---- what the nodes do, by all three ways

    private static void producers() {
        Check.says(11, "r NUMBER NUMBER: the numbers from a to b - 1, none if b is not greater than a.");
        Ran.all("r5;7;", "5 6", "0 0 2 3 0 0", "0 0 2 3 0 0", "0 0 2 1 2 0");
        Ran.all("r5;6;", "5", "0 0 1 2 0 0", "0 0 1 2 0 0", "0 0 1 1 1 0");
        Ran.all("r5;5;", "", "0 0 0 1 0 0", "0 0 0 1 0 0", "0 0 0 1 0 0");
        Ran.all("r5;4;", "", "0 0 0 1 0 0", "0 0 0 1 0 0", "0 0 0 1 0 0");
        Ran.gives("r9999;-9999;", "");
        Ran.gives("r-9999;-9997;", "-9999 -9998");
        Ran.gives("r9997;9999;", "9997 9998");

        Check.says(11, "i NUMBER NUMBER: a, a + b, a + 2 * b, and so on, without end.");
        for (int way = 0; way < 2; way++) {
            Ran.due("i5;-2;", way, 4, "5 3 1 -1", "0 0 4 4 0 0");
            Ran.due("i7;0;", way, 3, "7 7 7", "0 0 3 3 0 0");
            Ran.due("i-9999;9999;", way, 3, "-9999 0 9999", "0 0 3 3 0 0");
            Ran.size("i0;1;", way, 40, 40, "0 0 40 40 0 0");
        }

        Check.says(11, "s DIGIT (0 to 3): the elements of this sheet, as it is when they are asked for.");
        Ran.all("s1", "4 -3 0", "0 0 3 4 0 0", "0 0 3 4 0 0", "0 0 3 1 3 0");
        Ran.all("s2", "", "0 0 0 1 0 0", "0 0 0 1 0 0", "0 0 0 1 0 0");
        for (int way = 0; way < 3; way++) {
            StreamFuser x = Check.planned("s3");
            x.sheet(3, 1, 2);
            x.run(way, 9);
            x.lay(3, 1, 1, 70000);
            Check.same("the result of before", Check.results(x), "0 0");
            x.run(way, 9);
            Check.same("another element", Check.results(x), "0 4464");
            x.sheet(3, 2, 1);
            x.run(way, 9);
            Check.same("another array", Check.results(x), "0");
            x.sheet(3, 2, 0);
            Check.due("an array of nothing", x.run(way, 9), 0);
            x.sheet(3, 0, 60);
            Check.due("an array of 60", x.run(way, 40), 40);
            x.lose(3);
            Check.due("lost", x.run(way, 9), 0);
            Check.due("lost", x.failure(0), 2);
        }
    }

    private static void openedProducers() {
        Check.says(11, "u: 0 to w - 1, none if w is not greater than 0; v: w alone.");
        Ran.all("xur2;3;", "0 1", "0 0 3 8 0 0", "0 0 3 5 0 0", "0 0 3 3 5 0");
        Ran.all("xur1;2;", "0", "0 0 2 6 0 0", "0 0 2 4 0 0", "0 0 2 3 3 0");
        Ran.all("xur0;1;", "", "0 0 1 4 0 0", "0 0 1 3 0 0", "0 0 1 3 1 0");
        Ran.all("xur-1;0;", "", "0 0 1 4 0 0", "0 0 1 3 0 0", "0 0 1 3 1 0");
        Ran.all("xvr0;1;", "0", "0 0 2 6 0 0", "0 0 2 4 0 0", "0 0 2 3 3 0");
        Ran.all("xvr-1;0;", "-1", "0 0 2 6 0 0", "0 0 2 4 0 0", "0 0 2 3 3 0");
        Ran.gives("xus1", "0 1 2 3");
        Ran.gives("xvs1", "4 -3 0");

        Check.says(11, "Let w be the number for which the innermost x, in whose Q it stands, has opened this Q.");
        Ran.all("xxvur2;3;", "0 1", "0 0 5 15 0 0", "0 0 5 9 0 0", "0 0 5 6 9 0");
        Ran.all("xxuvr2;3;", "0 1", "0 0 4 13 0 0", "0 0 4 7 0 0", "0 0 4 5 8 0");
        Ran.gives("xcxvr8;9;vr2;3;", "8 2");
        Ran.gives("xcvxvr8;9;r2;3;", "2 8");
        Ran.gives("x+1;vxvr2;4;", "3 4");
    }

    private static StreamFuser withExtremes(String pipe) {
        StreamFuser x = Check.planned(pipe);
        x.sheet(3, 2, 2);
        x.lay(3, 2, 0, MAX);
        x.lay(3, 2, 1, NO_INT);
        return x;
    }

    private static void extremes(String pipe, String want) {
        StreamFuser x = withExtremes(pipe);
        for (int way = 0; way < 3; way++) {
            x.run(way, 40);
            Check.same("run(" + way + ", 40) of " + pipe, Check.results(x), want);
        }
    }

    private static void arithmetic() {
        Check.says(11, "All arithmetic is int arithmetic with overflow.");
        extremes("s3", "2147483647 -2147483648");
        extremes("+1;s3", "-2147483648 -2147483647");
        extremes("+-1;s3", "2147483646 2147483647");
        extremes("*2;s3", "-2 0");
        extremes("*-1;s3", "-2147483647 -2147483648");
        extremes("z+s3s3", "-2 0");
        extremes("z*s3s3", "1 0");
        extremes("z<s3r0;2;", "0 -2147483648");
        extremes("z<s3*-1;s3", "-2147483647 -2147483648");
        extremes("/-1;s3", "0 0");
        extremes("%10;s3", "7 2");
        extremes("%9999;s3", "8416 1582");
        extremes("k2;s3", "-2147483648");
        extremes("?<0;s3", "-2147483648");
        extremes("?>0;s3", "2147483647");
        extremes("w>0;s3", "2147483647");
        extremes("xvs3", "2147483647 -2147483648");
        extremes("l0s3", "2147483647 -2147483648");
        Ran.gives("*9999;*9999;r21;23;", "2099580021 -2095407274");

        Check.says(11, "With one pipe: - + NUMBER P: n is added to each number. * NUMBER P: each number is "
            + "multiplied by n.");
        Ran.gives("+0;s1", "4 -3 0");
        Ran.gives("+-9999;s1", "-9995 -10002 -9999");
        Ran.gives("*0;s1", "0 0 0");
        Ran.gives("*-9999;s1", "-39996 29997 0");
        Ran.all("+1;r0;2;", "1 2", "0 0 2 6 0 0", "0 0 2 3 0 0", "0 0 2 2 4 0");

        Check.says(11, "/ NUMBER P: n divided by each number (integer division of n by the number, as in Java); for "
            + "the number 0 there is a failure.");
        Ran.gives("/7;r2;4;", "3 2");
        Ran.gives("/-7;r2;4;", "-3 -2");
        Ran.gives("/7;r-2;0;", "-3 -7");
        Ran.gives("/-7;r-2;0;", "3 7");
        Ran.gives("/0;r1;3;", "0 0");
        Ran.gives("/5;r5;7;", "1 0");
        Ran.fails("/1;r0;1;", 1, 0);
        Ran.fails("/0;r0;1;", 1, 0);
        Ran.fails("/1;r1;2;", 0, 0);
        Ran.fails("/1;r-1;0;", 0, 0);

        Check.says(11, "% WHOLE P: each number modulo n (Math.floorMod).");
        Ran.gives("%3;r-4;4;", "2 0 1 2 0 1 2 0");
        Ran.gives("%1;s1", "0 0 0");
        Ran.gives("%9999;r-1;1;", "9998 0");
        Ran.gives("%4;s1", "0 1 0");
    }

    private static void filters() {
        Check.says(11, "? KIND NUMBER P: the numbers that are less than, greater than, or equal to n.");
        Ran.gives("?<2;r1;4;", "1");
        Ran.gives("?>2;r1;4;", "3");
        Ran.gives("?=2;r1;4;", "2");
        Ran.gives("?<-1;r-2;1;", "-2");
        Ran.gives("?>-1;r-2;1;", "0");
        Ran.gives("?=-1;r-2;1;", "-1");
        Ran.gives("?=9;r0;5;", "");

        Check.says(11, "k WHOLE P: the numbers that are divisible by n.");
        Ran.gives("k1;s1", "4 -3 0");
        Ran.gives("k3;r-3;7;", "-3 0 3 6");
        Ran.gives("k9999;+9998;r0;3;", "9999");
        Ran.gives("k5;r1;5;", "");

        Check.says(11, "w KIND NUMBER P: the numbers before the first one that is not less than, greater than, or "
            + "equal to n.");
        Ran.gives("w<2;r1;4;", "1");
        Ran.gives("w<1;r1;4;", "");
        Ran.gives("w>0;r1;4;", "1 2 3");
        Ran.gives("w>1;r1;4;", "");
        Ran.gives("w=1;r1;4;", "1");
        Ran.gives("w=2;r1;4;", "");
        Ran.gives("w>-1;s1", "4");
        Ran.gives("w<9;s2", "");

        Check.says(11, "t SMALL P: the first n numbers. d SMALL P: the numbers behind the first n.");
        Ran.gives("t0;s1", "");
        Ran.gives("t1;s1", "4");
        Ran.gives("t2;s1", "4 -3");
        Ran.gives("t3;s1", "4 -3 0");
        Ran.gives("t4;s1", "4 -3 0");
        Ran.gives("t99;s1", "4 -3 0");
        Ran.gives("d0;s1", "4 -3 0");
        Ran.gives("d1;s1", "-3 0");
        Ran.gives("d2;s1", "0");
        Ran.gives("d3;s1", "");
        Ran.gives("d4;s1", "");
        Ran.gives("d99;s1", "");
        Ran.gives("t1;d1;s1", "-3");
        Ran.gives("d1;t2;s1", "-3");
    }

    private static void twoPipes() {
        Check.says(11, "c P Q: the numbers of P, then those of Q.");
        Ran.gives("cs1r7;9;", "4 -3 0 7 8");
        Ran.gives("cs2s1", "4 -3 0");
        Ran.gives("cs1s2", "4 -3 0");
        Ran.gives("cs2s2", "");
        Ran.gives("ccr1;2;r2;3;cs2r3;4;", "1 2 3");

        Check.says(11, "z, one of + * <, P Q: the first numbers of both, the second numbers of both, and so on, "
            + "added, multiplied, or the smaller one of both, until one of them has none left.");
        Ran.gives("z+s1r7;9;", "11 5");
        Ran.gives("z*r7;9;s1", "28 -24");
        Ran.gives("z<s1r-4;5;", "-4 -3 -2");
        Ran.gives("z<r-3;0;s1", "-3 -3 -1");
        Ran.gives("z<r4;5;s1", "4");
        Ran.gives("z+s1s1", "8 -6 0");
        Ran.gives("z+s2s1", "");
        Ran.gives("z+s1s2", "");

        Check.says(11, "x Q P: for each number of P, in order, the numbers of Q, opened for it. (In the text Q "
            + "comes first.)");
        Ran.gives("xr7;9;s1", "7 8 7 8 7 8");
        Ran.gives("xs1s2", "");
        Ran.gives("xs2s1", "");
        Ran.gives("xt1;us1", "0");
        Ran.gives("xd1;ur3;5;", "1 2 1 2 3");
        Ran.gives("xw<1;ur2;4;", "0 0");
        Ran.gives("xcvvr1;3;", "1 1 2 2");
        Ran.gives("xz+uur2;4;", "0 2 0 2 4");
        Ran.gives("xz+vuxur2;4;", "1 1 2");
        Ran.gives("x?=1;ur1;4;", "1 1");
    }

    // ---- limits

    private static void limits() {
        Check.says(11, "A run gets numbers of the plan, at most as many as a limit from 0 to 40, and puts them into "
            + "the result.");
        for (int way = 0; way < 2; way++) {
            Ran.size("r0;41;", way, 40, 40, "0 0 40 40 0 0");
            Ran.size("r0;40;", way, 40, 40, "0 0 40 40 0 0");
            Ran.size("r0;39;", way, 40, 39, "0 0 39 40 0 0");
            Ran.size("r0;41;", way, 39, 39, "0 0 39 39 0 0");
            Ran.due("r5;9;", way, 1, "5", "0 0 1 1 0 0");
            Ran.due("r5;9;", way, 0, "", "0 0 0 0 0 0");
        }
        Check.says(11, "The result gets the first numbers of the array of the plan.");
        Ran.size("r0;41;", 2, 40, 40, "0 0 41 1 41 0");
        Ran.size("r0;40;", 2, 40, 40, "0 0 40 1 40 0");
        Ran.size("r0;39;", 2, 40, 39, "0 0 39 1 39 0");
        Ran.due("r5;9;", 2, 2, "5 6", "0 0 4 1 4 0");
        Ran.due("r5;9;", 2, 1, "5", "0 0 4 1 4 0");
        Ran.due("r5;9;", 2, 0, "", "0 0 4 1 4 0");

        Check.says(11, "In the ways 0 and 1 the plan is asked for no more numbers than the limit");
        Ran.due("cr0;1;s0", 0, 0, "", "0 0 0 0 0 0");
        Ran.due("cr0;1;s0", 0, 1, "0", "0 0 1 2 0 0");
        Ran.due("cr0;1;s0", 0, 2, "0", "2 0 1 5 0 0");
        Ran.due("cr0;1;s0", 1, 0, "", "0 0 0 0 0 0");
        Ran.due("cr0;1;s0", 1, 1, "0", "0 0 1 1 0 0");
        Ran.due("cr0;1;s0", 1, 2, "0", "2 0 1 3 0 0");
        Ran.due("s0", 2, 0, "", "2 0 0 0 0 0");

        Check.says(11, "the run ends when the plan has none left, or with a failure, and the result keeps what it "
            + "has then.");
        Ran.due("/6;r-1;3;", 0, 9, "-6", "1 0 2 4 0 0");
        Ran.due("/6;r-1;3;", 1, 9, "-6", "1 0 2 2 0 0");
        Ran.due("cs1s0", 0, 9, "4 -3 0", "2 0 3 9 0 0");
        Ran.due("cs1s0", 1, 9, "4 -3 0", "2 0 3 5 0 0");
        Check.says(11, "With a failure the result is empty.");
        Ran.due("/6;r-1;3;", 2, 9, "", "1 0 4 1 4 0");
        Ran.due("cs1s0", 2, 9, "", "2 0 3 1 3 0");
        Ran.due("cs1s0", 2, 1, "", "2 0 3 1 3 0");
    }

    private static void beginsAnew() {
        Check.says(11, "It begins anew: producers at their beginnings, nothing written down, nothing drawn.");
        String[] pipes = {
            "l1r0;5;", "?<0;r0;500;", "t2;l3r0;9;", "d1;s1", "w<2;r0;5;", "cr0;1;r1;2;", "z+r0;2;r0;3;", "xl2ur0;4;",
            "/6;l4r-2;2;", "cs1s0", "xxvt2;ur1;4;"
        };
        for (String pipe : pipes) {
            StreamFuser x = Ran.of(pipe, 0, 1);
            for (int turn = 0; turn < 9; turn++) {
                int way = turn * 2 % 3;
                int limit = turn % 2 == 0 ? 40 : 1;
                StreamFuser fresh = Ran.of(pipe, way, limit);
                Check.due("run of " + pipe, x.run(way, limit), fresh.count(2));
                Check.same("result of " + pipe, Check.results(x), Check.results(fresh));
                Check.same("figures of " + pipe, Check.figures(x), Check.figures(fresh));
                Check.same("pairs of " + pipe, Check.pairs(x), Check.pairs(fresh));
            }
        }
    }

    // ---- way 0

    private static void asking() {
        Check.says(11, "A node that is asked gives its next number, or has none. A producer gives its next one.");
        Ran.due("r0;2;", 0, 3, "0 1", "0 0 2 3 0 0");
        Ran.due("r0;2;", 0, 2, "0 1", "0 0 2 2 0 0");
        Check.says(11, "+ * / % l ask P once.");
        for (String one : new String[] {"+1;", "*1;", "/1;", "%9;", "l1"}) {
            String pairs = one.equals("l1") ? "2" : "0";
            Ran.size(one + "r1;3;", 0, 9, 2, "0 0 2 6 0 " + pairs);
            Ran.size(one + "r1;3;", 0, 2, 2, "0 0 2 4 0 " + pairs);
        }
        Check.says(11, "? and k ask P until they get a number that they let pass, or P has none.");
        Ran.due("?=2;r0;4;", 0, 1, "2", "0 0 3 4 0 0");
        Ran.due("?=2;r0;4;", 0, 2, "2", "0 0 4 7 0 0");
        Ran.due("?=0;r0;1;", 0, 1, "0", "0 0 1 2 0 0");
        Ran.due("k3;r1;5;", 0, 1, "3", "0 0 3 4 0 0");
        Ran.due("k3;r1;5;", 0, 2, "3", "0 0 4 7 0 0");
        Ran.due("k9;r1;5;", 0, 2, "", "0 0 4 6 0 0");
        Check.says(11, "w asks P once; it has none if the number does not pass, and from then on, without asking.");
        Ran.due("w<1;r0;9;", 0, 1, "0", "0 0 1 2 0 0");
        Ran.due("w<1;r0;9;", 0, 2, "0", "0 0 2 4 0 0");
        Ran.due("w<1;r1;9;", 0, 9, "", "0 0 1 2 0 0");
        Ran.due("w<9;r0;1;", 0, 9, "0", "0 0 1 4 0 0");
        Ran.due("cw<1;r0;9;r7;8;", 0, 9, "0 7", "0 0 3 9 0 0");
        Check.says(11, "t has none, without asking, if it has given n numbers; otherwise it asks P once.");
        Ran.due("t0;r0;9;", 0, 9, "", "0 0 0 1 0 0");
        Ran.due("t0;s0", 0, 9, "", "0 0 0 1 0 0");
        Ran.due("t1;s0", 0, 9, "", "2 0 0 2 0 0");
        Ran.due("t2;r0;9;", 0, 9, "0 1", "0 0 2 5 0 0");
        Ran.due("t2;r0;2;", 0, 9, "0 1", "0 0 2 5 0 0");
        Ran.due("t3;r0;2;", 0, 9, "0 1", "0 0 2 6 0 0");
    }

    private static void askingMore() {
        Check.says(11, "d, when it is asked first, asks P n times, as long as P has numbers, and drops what it "
            + "gets; then, and each later time, it asks P once; if P had none, it has none, without asking further.");
        Ran.due("d0;r0;1;", 0, 9, "0", "0 0 1 4 0 0");
        Ran.due("d1;r0;3;", 0, 1, "1", "0 0 2 3 0 0");
        Ran.due("d1;r0;3;", 0, 2, "1 2", "0 0 3 5 0 0");
        Ran.due("d1;r0;3;", 0, 3, "1 2", "0 0 3 7 0 0");
        Ran.due("d1;r0;3;", 0, 0, "", "0 0 0 0 0 0");
        Ran.due("d2;r0;2;", 0, 9, "", "0 0 2 4 0 0");
        Ran.due("d3;r0;2;", 0, 9, "", "0 0 2 4 0 0");
        Ran.due("d99;r0;2;", 0, 9, "", "0 0 2 4 0 0");
        Ran.due("d1;r0;0;", 0, 9, "", "0 0 0 2 0 0");
        Ran.due("d0;r0;0;", 0, 9, "", "0 0 0 2 0 0");
        Check.says(11, "c asks P; if that has none it asks Q, and from then on Q alone.");
        Ran.due("cr0;1;r5;7;", 0, 1, "0", "0 0 1 2 0 0");
        Ran.due("cr0;1;r5;7;", 0, 2, "0 5", "0 0 2 5 0 0");
        Ran.due("cr0;1;r5;7;", 0, 3, "0 5 6", "0 0 3 7 0 0");
        Ran.due("cr0;1;r5;7;", 0, 4, "0 5 6", "0 0 3 9 0 0");
        Ran.due("cr0;0;r5;6;", 0, 9, "5", "0 0 1 5 0 0");
        Ran.due("cr0;1;r0;0;", 0, 9, "0", "0 0 1 5 0 0");
        Ran.due("cr0;0;r0;0;", 0, 9, "", "0 0 0 3 0 0");
        Check.says(11, "z asks P, and, if that has one, Q.");
        Ran.due("z+r0;1;r5;6;", 0, 1, "5", "0 0 2 3 0 0");
        Ran.due("z+r0;1;r5;6;", 0, 2, "5", "0 0 2 5 0 0");
        Ran.due("z+r0;2;r5;6;", 0, 2, "5", "0 0 3 6 0 0");
        Ran.due("z+r0;0;r5;6;", 0, 9, "", "0 0 0 2 0 0");
        Ran.due("z+r0;0;s0", 0, 9, "", "0 0 0 2 0 0");
        Ran.due("z+r0;9;r0;0;", 0, 9, "", "0 0 1 3 0 0");
        Check.says(11, "x asks Q, if it is open; if that has none, or none is open, it asks P, and if that has one "
            + "it opens Q for it, and asks it, and so on.");
        Ran.due("xur0;2;", 0, 1, "0", "0 0 3 5 0 0");
        Ran.due("xur0;2;", 0, 2, "0", "0 0 3 8 0 0");
        Ran.due("xvr0;0;", 0, 9, "", "0 0 0 2 0 0");
        Ran.due("xs0r0;0;", 0, 9, "", "0 0 0 2 0 0");
        Ran.due("xr7;9;r0;1;", 0, 1, "7", "0 0 2 3 0 0");
        Ran.due("xr7;9;r0;1;", 0, 2, "7 8", "0 0 3 5 0 0");
        Ran.due("xr7;9;r0;1;", 0, 3, "7 8", "0 0 3 8 0 0");
        Ran.due("xr0;0;r0;3;", 0, 9, "", "0 0 3 8 0 0");
        Check.says(11, "It is counted how often nodes were asked, all together, the first node included, also those "
            + "that did not answer because of a failure.");
        Ran.due("s0", 0, 9, "", "2 0 0 1 0 0");
        Ran.due("+1;*1;s0", 0, 9, "", "2 0 0 3 0 0");
        Ran.due("+1;/1;r0;1;", 0, 9, "", "1 0 1 3 0 0");
        Ran.due("z+r0;1;s0", 0, 9, "", "2 0 1 3 0 0");
        Ran.due("d3;cr0;1;s0", 0, 9, "", "2 0 1 6 0 0");
        Check.says(11, "the run ends when the plan has none left, or with a failure");
        Ran.due("cs0r5;6;", 0, 9, "", "2 0 0 2 0 0");
        Ran.due("c/1;r0;1;r5;6;", 0, 9, "", "1 0 1 3 0 0");
        Ran.due("ccs0r5;6;r7;8;", 0, 9, "", "2 0 0 3 0 0");
        Ran.due("xcs0r5;6;r0;3;", 0, 9, "", "2 1 1 4 0 0");
        Ran.due("xs0r0;3;", 0, 9, "", "2 1 1 3 0 0");
        Ran.due("xvs0", 0, 9, "", "2 0 0 2 0 0");
        Ran.due("?<9;s0", 0, 9, "", "2 0 0 2 0 0");
        Ran.due("z+s0r0;9;", 0, 9, "", "2 0 0 2 0 0");
    }

    // ---- way 1

    private static void stepping() {
        Check.says(11, "A step of a pipe gives a number, skips, or ends. A step of a producer gives its next number "
            + "or ends.");
        Ran.due("r0;2;", 1, 2, "0 1", "0 0 2 2 0 0");
        Ran.due("r0;2;", 1, 3, "0 1", "0 0 2 3 0 0");
        Check.says(11, "A step of another node is a step of P, with the same outcome, except as follows. + * / % l "
            + "change (or write down) the number given.");
        for (String one : new String[] {"+1;", "*1;", "/1;", "%9;", "l1"}) {
            String pairs = one.equals("l1") ? "2" : "0";
            Ran.size(one + "r1;3;", 1, 9, 2, "0 0 2 3 0 " + pairs);
            Ran.size(one + "?>0;r0;3;", 1, 9, 2, "0 0 3 4 0 " + pairs);
        }
        Check.says(11, "? and k skip instead of giving a number that does not pass.");
        Ran.due("?=2;r0;4;", 1, 1, "2", "0 0 3 3 0 0");
        Ran.due("?=2;r0;4;", 1, 2, "2", "0 0 4 5 0 0");
        Ran.due("k3;r1;5;", 1, 1, "3", "0 0 3 3 0 0");
        Ran.due("k3;r1;5;", 1, 2, "3", "0 0 4 5 0 0");
        Check.says(11, "w ends at the first number that does not pass.");
        Ran.due("w<1;r0;9;", 1, 1, "0", "0 0 1 1 0 0");
        Ran.due("w<1;r0;9;", 1, 2, "0", "0 0 2 2 0 0");
        Ran.due("w<1;r1;9;", 1, 9, "", "0 0 1 1 0 0");
        Ran.due("w<9;r0;1;", 1, 9, "0", "0 0 1 2 0 0");
        Check.says(11, "t ends, without a step of P, if it has given n numbers.");
        Ran.due("t0;r0;9;", 1, 9, "", "0 0 0 1 0 0");
        Ran.due("t0;s0", 1, 9, "", "0 0 0 1 0 0");
        Ran.due("t1;s0", 1, 9, "", "2 0 0 1 0 0");
        Ran.due("t2;r0;9;", 1, 9, "0 1", "0 0 2 3 0 0");
        Ran.due("t2;r0;2;", 1, 9, "0 1", "0 0 2 3 0 0");
        Ran.due("t3;r0;2;", 1, 9, "0 1", "0 0 2 3 0 0");
        Ran.due("t1;?>1;r0;9;", 1, 9, "2", "0 0 3 4 0 0");
        Check.says(11, "d skips for the first n numbers given.");
        Ran.due("d0;r0;1;", 1, 9, "0", "0 0 1 2 0 0");
        Ran.due("d1;r0;3;", 1, 1, "1", "0 0 2 2 0 0");
        Ran.due("d1;r0;3;", 1, 9, "1 2", "0 0 3 4 0 0");
        Ran.due("d2;r0;2;", 1, 9, "", "0 0 2 3 0 0");
        Ran.due("d3;r0;2;", 1, 9, "", "0 0 2 3 0 0");
        Ran.due("d1;?>1;r0;4;", 1, 9, "3", "0 0 4 5 0 0");
    }

    private static void steppingMore() {
        Check.says(11, "c: when P ends, it skips, and from then on its steps are those of Q.");
        Ran.due("cr0;1;r5;7;", 1, 1, "0", "0 0 1 1 0 0");
        Ran.due("cr0;1;r5;7;", 1, 2, "0 5", "0 0 2 3 0 0");
        Ran.due("cr0;1;r5;7;", 1, 9, "0 5 6", "0 0 3 5 0 0");
        Ran.due("cr0;0;r0;0;", 1, 9, "", "0 0 0 2 0 0");
        Check.says(11, "z: if it holds no number, a step of P; if this gives a number, z holds it and skips; if it "
            + "holds one, a step of Q; if this gives a number, z gives the result of both and holds none then.");
        Ran.due("z+r0;2;r5;9;", 1, 1, "5", "0 0 2 2 0 0");
        Ran.due("z+r0;2;r5;9;", 1, 9, "5 7", "0 0 4 5 0 0");
        Ran.due("z+r0;2;r5;6;", 1, 9, "5", "0 0 3 4 0 0");
        Ran.due("z+r0;0;s0", 1, 9, "", "0 0 0 1 0 0");
        Ran.due("z+r0;1;s0", 1, 9, "", "2 0 1 2 0 0");
        Ran.due("z+?>0;r0;2;?>5;r5;7;", 1, 1, "7", "0 0 4 4 0 0");
        Check.says(11, "x: if Q is not open, a step of P; if this gives a number, Q is opened for it, and x skips; "
            + "if Q is open, a step of Q; if this ends, Q is not open any more, and x skips.");
        Ran.due("xur0;2;", 1, 1, "0", "0 0 3 4 0 0");
        Ran.due("xur0;2;", 1, 9, "0", "0 0 3 6 0 0");
        Ran.due("xvr0;0;", 1, 9, "", "0 0 0 1 0 0");
        Ran.due("xs0r0;1;", 1, 9, "", "2 1 1 2 0 0");
        Ran.due("xr0;0;r0;3;", 1, 9, "", "0 0 3 7 0 0");
        Check.says(11, "The steps of the plan are counted (not those of the nodes within it), also the one that "
            + "ends, and the one with a failure.");
        Ran.due("+1;+1;+1;r0;1;", 1, 9, "3", "0 0 1 2 0 0");
        Ran.due("r0;0;", 1, 1, "", "0 0 0 1 0 0");
        Ran.due("s0", 1, 1, "", "2 0 0 1 0 0");
        Ran.due("/1;r0;1;", 1, 1, "", "1 0 1 1 0 0");
        Ran.due("cs0r5;6;", 1, 9, "", "2 0 0 1 0 0");
        Ran.due("ccs0r5;6;r7;8;", 1, 9, "", "2 0 0 1 0 0");
        Ran.due("xcs0r5;6;r0;3;", 1, 9, "", "2 1 1 2 0 0");
        Ran.due("xvs0", 1, 9, "", "2 0 0 1 0 0");
        Ran.due("z+s0r0;9;", 1, 9, "", "2 0 0 1 0 0");
    }

    // ---- way 2

    private static void arrays() {
        Check.says(11, "For each node a complete array is made: first the arrays of its P and Q (P before Q, also "
            + "for x, and for x then the array of Q anew for each number of P; otherwise in the order of the text), "
            + "then its own.");
        Ran.size("+1;*1;%9;r0;3;", 2, 1, 1, "0 0 3 4 12 0");
        Ran.due("cr0;1;s0", 2, 9, "", "2 0 1 1 1 0");
        Ran.due("cs0r0;1;", 2, 9, "", "2 0 0 0 0 0");
        Ran.due("xs0r0;2;", 2, 9, "", "2 1 2 1 2 0");
        Ran.due("xs0r0;0;", 2, 9, "", "0 0 0 2 0 0");
        Ran.due("xr7;9;r0;2;", 2, 9, "7 8 7 8", "0 0 6 4 10 0");
        Ran.due("xr0;0;r0;3;", 2, 9, "", "0 0 3 5 3 0");
        Check.same("P before Q", Check.pairs(Ran.of("cl1r0;1;l2r1;2;", 2, 9)), "1:0 2:1");
        Check.same("P before Q", Check.pairs(Ran.of("z+l1r0;1;l2r1;2;", 2, 9)), "1:0 2:1");
        Check.same("P before Q", Check.pairs(Ran.of("xl1vl2r3;5;", 2, 9)), "2:3 2:4 1:3 1:4");

        Check.says(11, "Numbers are drawn and written down as arrays are made.");
        Ran.due("l1r0;3;", 2, 0, "", "0 0 3 2 6 3");
        Ran.due("t1;l1r0;3;", 2, 9, "0", "0 0 3 3 7 3");
        Ran.due("cl1r0;3;s0", 2, 9, "", "2 0 3 2 6 3");

        Check.says(11, "z makes both arrays complete, t, d and w make that of P complete.");
        Ran.due("z+r0;1;r5;8;", 2, 9, "5", "0 0 4 3 5 0");
        Ran.due("z+r0;3;r5;6;", 2, 9, "5", "0 0 4 3 5 0");
        Ran.due("z+r0;0;s0", 2, 9, "", "2 0 0 1 0 0");
        Ran.due("t1;r0;3;", 2, 9, "0", "0 0 3 2 4 0");
        Ran.due("t0;r0;3;", 2, 9, "", "0 0 3 2 3 0");
        Ran.due("t0;s0", 2, 9, "", "2 0 0 0 0 0");
        Ran.due("d1;r0;3;", 2, 9, "1 2", "0 0 3 2 5 0");
        Ran.due("d9;l5r0;3;", 2, 9, "", "0 0 3 3 6 3");
        Ran.due("w<1;l5r0;3;", 2, 9, "0", "0 0 3 3 7 3");
        Ran.due("t1;/1;cr1;2;r0;1;", 2, 9, "", "1 0 2 3 4 0");
        Ran.due("t1;/1;cr1;2;r0;1;", 0, 9, "1", "0 0 1 5 0 0");

        Check.says(11, "The arrays made are counted, and the elements in all of them (without the array at which a "
            + "failure occurs).");
        Ran.due("r0;0;", 2, 9, "", "0 0 0 1 0 0");
        Ran.due("/6;r1;4;", 2, 9, "6 3 2", "0 0 3 2 6 0");
        Ran.due("/6;r-3;1;", 2, 9, "", "1 0 4 1 4 0");
        Ran.due("x/6;vr-1;1;", 2, 9, "", "1 1 4 4 5 0");
        Ran.due("r0;61;", 2, 9, "", "4 0 0 0 0 0");
    }

    private static void longArrays() {
        Check.says(11, "No array may have more than 60 elements; otherwise there is a failure: for a producer "
            + "before any number of it is drawn, for other nodes as soon as there are more than 60.");
        Ran.size("r0;59;", 2, 40, 40, "0 0 59 1 59 0");
        Ran.size("r0;60;", 2, 40, 40, "0 0 60 1 60 0");
        Ran.size("r0;61;", 2, 40, 0, "4 0 0 0 0 0");
        Ran.size("r-9999;9999;", 2, 40, 0, "4 0 0 0 0 0");
        Ran.size("xur60;61;", 2, 40, 40, "0 0 61 3 121 0");
        Ran.size("xur61;62;", 2, 40, 0, "4 1 1 1 1 0");
        Ran.size("cr0;60;r0;0;", 2, 40, 40, "0 0 60 3 120 0");
        Ran.size("cr0;60;r0;1;", 2, 40, 0, "4 0 61 2 61 0");
        Ran.size("cr0;1;r0;60;", 2, 40, 0, "4 0 61 2 61 0");
        Ran.size("cr0;1;r0;59;", 2, 40, 40, "0 0 60 3 120 0");
        Ran.size("xvr0;60;", 2, 40, 40, "0 0 120 62 180 0");
        Ran.size("xcvvr0;30;", 2, 40, 40, "0 0 90 92 210 0");
        Ran.size("xcvvr0;31;", 2, 40, 0, "4 0 93 94 155 0");
        // 20 numbers three times are 60; 21 are too many with the third array, and the fourth is not made.
        Ran.size("xr0;20;r0;3;", 2, 40, 40, "0 0 63 5 123 0");
        Ran.size("xr0;21;r0;4;", 2, 40, 0, "4 0 67 4 67 0");
        Ran.size("t0;r0;61;", 2, 40, 0, "4 0 0 0 0 0");
        Ran.size("d99;r0;61;", 2, 40, 0, "4 0 0 0 0 0");
        Ran.size("w<0;r0;61;", 2, 40, 0, "4 0 0 0 0 0");
        Ran.size("?<0;r0;61;", 2, 40, 0, "4 0 0 0 0 0");
        Ran.size("z+r0;0;r0;61;", 2, 40, 0, "4 0 0 1 0 0");
        Ran.size("z+r0;60;r0;60;", 2, 40, 40, "0 0 120 3 180 0");
        // In the ways 0 and 1 there are no arrays, and no such bound.
        Ran.due("d60;r0;61;", 0, 9, "60", "0 0 61 64 0 0");
        Ran.due("d60;r0;61;", 1, 9, "60", "0 0 61 62 0 0");
        for (int n = 60; n <= 61; n++) {
            StreamFuser x = Check.planned("cs0r0;" + (n - 60) + ";");
            x.sheet(0, 0, 60);
            Check.due("60 and " + (n - 60), x.run(2, 40), n == 60 ? 40 : 0);
            Check.due("long", x.failure(0), n == 60 ? 0 : 4);
        }
    }

    // ---- failures

    private static void spent() {
        Check.says(11, "Drawn is the number of numbers that producers have given; when a producer is about to give "
            + "the 501st one, there is a failure.");
        Ran.size("?<0;r0;499;", 0, 40, 0, "0 0 499 501 0 0");
        Ran.size("?<0;r0;500;", 0, 40, 0, "0 0 500 502 0 0");
        Ran.size("?<0;r0;501;", 0, 40, 0, "3 0 500 502 0 0");
        Ran.size("?<0;r0;500;", 1, 40, 0, "0 0 500 501 0 0");
        Ran.size("?<0;r0;501;", 1, 40, 0, "3 0 500 501 0 0");
        Ran.due("c?<0;r0;499;r7;8;", 0, 40, "7", "0 0 500 505 0 0");
        Ran.due("c?<0;r0;499;r7;9;", 0, 40, "7", "3 0 500 505 0 0");
        Ran.due("c?<0;r0;499;r7;9;", 0, 1, "7", "0 0 500 503 0 0");
        Ran.due("c?<0;r0;500;s2", 0, 40, "", "0 0 500 504 0 0");
        Ran.due("c?<0;r0;500;s0", 0, 40, "", "2 0 500 504 0 0");
        Ran.due("c?<0;r0;500;s1", 0, 40, "", "3 0 500 504 0 0");

        Check.says(11, "3 spent: the 501st number (501 and more at once in way 2; then 500 count as drawn)");
        // 10 numbers of P, and 10 times 49 of Q, are 500.
        Ran.size("x?<0;r0;49;r0;10;", 2, 40, 0, "0 0 500 22 500 0");
        Ran.size("x?<0;r0;50;r0;10;", 2, 40, 0, "3 0 500 19 460 0");
        Ran.size("cx?<0;r0;49;r0;10;r0;0;", 2, 40, 0, "0 0 500 24 500 0");
        Ran.size("cx?<0;r0;49;r0;10;r0;1;", 2, 40, 0, "3 0 500 22 500 0");
        Ran.size("cx?<0;r0;44;r0;10;r0;50;", 2, 40, 40, "0 0 500 24 550 0");
        Ran.size("cx?<0;r0;44;r0;10;r0;51;", 2, 40, 0, "3 0 500 22 450 0");
        Ran.size("cx?<0;r0;44;r0;10;r0;60;", 2, 40, 0, "3 0 500 22 450 0");
        Ran.size("cx?<0;r0;44;r0;10;r0;61;", 2, 40, 0, "4 0 450 22 450 0");
        Ran.size("cx?<0;r0;49;r0;10;s0", 2, 40, 0, "2 0 500 22 500 0");
        Ran.size("cx?<0;r0;49;r0;10;s2", 2, 40, 0, "0 0 500 24 500 0");
    }

    private static void zeroAndLost() {
        Check.says(11, "The failures are 1 zero: a division by 0");
        Ran.due("/5;s1", 0, 9, "1 -1", "1 0 3 6 0 0");
        Ran.due("/5;s1", 1, 9, "1 -1", "1 0 3 3 0 0");
        Ran.due("/5;s1", 2, 9, "", "1 0 3 1 3 0");
        Ran.due("/5;s1", 0, 2, "1 -1", "0 0 2 4 0 0");
        Ran.fails("/5;s2", 0, 0);
        // n itself may be 0, and so may the numbers of + * %.
        Ran.fails("/0;r1;2;", 0, 0);
        Ran.fails("%1;*0;+0;r0;1;", 0, 0);

        Check.says(11, "2 lost: the sheet of an s that is asked (in way 2: whose array is made) is lost");
        for (int s : new int[] {0, 3}) {
            Ran.due("s" + s, 0, 9, "", "2 0 0 1 0 0");
            Ran.due("s" + s, 1, 9, "", "2 0 0 1 0 0");
            Ran.due("s" + s, 2, 9, "", "2 0 0 0 0 0");
        }
        Ran.fails("s2", 0, 0);
        Ran.due("s0", 0, 0, "", "0 0 0 0 0 0");
        Ran.due("s0", 1, 0, "", "0 0 0 0 0 0");
        Ran.due("s0", 2, 0, "", "2 0 0 0 0 0");
        Ran.due("t0;s0", 0, 9, "", "0 0 0 1 0 0");
        Ran.due("t0;s0", 2, 9, "", "2 0 0 0 0 0");
        Ran.due("z+s2s0", 0, 9, "", "0 0 0 2 0 0");
        Ran.due("z+s2s0", 1, 9, "", "0 0 0 1 0 0");
        Ran.due("z+s2s0", 2, 9, "", "2 0 0 1 0 0");
        Ran.fails("xs0s2", 0, 0);
        Ran.fails("xs0s1", 2, 1);

        Check.says(11, "4 long: more than 60 elements.");
        Ran.size("r0;61;", 0, 1, 1, "0 0 1 1 0 0");
        Ran.size("r0;61;", 1, 1, 1, "0 0 1 1 0 0");
        Ran.size("r0;61;", 2, 1, 0, "4 0 0 0 0 0");
    }

    private static void depths() {
        Check.says(11, "The depth of a failure is the number of x in whose Q the node stands at which it occurs; 0 "
            + "for failure 3.");
        Ran.fails("s0", 2, 0);
        Ran.fails("+1;cs0r0;1;", 2, 0);
        Ran.fails("xvs0", 2, 0);
        Ran.fails("xs0r0;1;", 2, 1);
        Ran.fails("xcs0vr0;1;", 2, 1);
        Ran.fails("xxvs0r0;1;", 2, 1);
        Ran.fails("xxs0vr0;1;", 2, 2);
        Ran.fails("xvxs0r0;1;", 2, 1);
        Ran.fails("xxxs0vvr0;1;", 2, 3);
        Ran.fails("cxvr1;2;s0", 2, 0);
        Ran.fails("xv/1;r0;1;", 1, 0);
        Ran.fails("x/1;vr0;1;", 1, 1);
        Ran.fails("/1;xvr0;1;", 1, 0);
        Ran.fails("xx/1;vvr0;1;", 1, 2);
        Ran.fails("xr1;2;s1", 0, 0);
        Ran.size("xr0;61;r0;1;", 2, 9, 0, "4 1 1 1 1 0");
        Ran.size("xvr0;61;", 2, 9, 0, "4 0 0 0 0 0");
        Ran.size("xxur61;62;r0;1;", 2, 9, 0, "4 2 2 2 2 0");
        Ran.size("xcr0;31;r0;31;r0;1;", 2, 9, 0, "4 1 63 3 63 0");
        Ran.size("xxr0;31;r0;2;r0;1;", 2, 9, 0, "4 1 65 4 65 0");
        Ran.size("x?<0;i0;1;r5;6;", 0, 9, 0, "3 0 500 503 0 0");
        Ran.size("x?<0;i0;1;r5;6;", 1, 9, 0, "3 0 500 501 0 0");
        Ran.size("x?<0;r0;60;r0;9;", 2, 9, 0, "3 0 500 17 489 0");
    }

    // ---- promise 11

    private static void runErrors() {
        Check.says(11, "`way`: 0 to 2");
        for (int way = 0; way <= 2; way++) Check.due("run(" + way + ", 1)", Check.planned("r0;9;").run(way, 1), 1);
        Check.says(11, "`limit`: 0 to 40");
        for (int limit : new int[] {0, 1, 39, 40}) {
            Check.due("run(0, " + limit + ")", Check.planned("r0;50;").run(0, limit), limit);
        }
        Check.says(11, "Returns how many numbers the result has; BAD if an argument is out of range; NOT if there "
            + "is no plan, or if it contains an i and way is 2.");
        int[][] wrong = {
            {-1, 1}, {3, 1}, {NO_INT, 1}, {MAX, 1}, {0, -1}, {0, 41}, {1, 41}, {2, 41}, {2, -1}, {0, NO_INT}, {0, MAX}
        };
        for (int[] one : wrong) {
            StreamFuser x = Ran.of("/6;l4r-2;2;", 0, 9);
            String figures = Check.figures(x);
            Check.due("run(" + one[0] + ", " + one[1] + ")", x.run(one[0], one[1]), StreamFuser.BAD);
            Check.same("the result stays", Check.results(x), "-3 -6");
            Check.same("the figures stay", Check.figures(x), figures);
            Check.due("BAD comes before NOT", new StreamFuser().run(one[0], one[1]), StreamFuser.BAD);
            Check.due("BAD comes before NOT", Check.planned("i0;0;").run(one[0], one[1]), StreamFuser.BAD);
        }
        for (int way = 0; way <= 2; way++) {
            Check.due("without a plan", new StreamFuser().run(way, 9), StreamFuser.NOT);
            Check.due("without a plan", new StreamFuser().run(way, 0), StreamFuser.NOT);
            Check.due("with a text alone", Check.typed("r0;9;").run(way, 9), StreamFuser.NOT);
            for (String pipe : new String[] {"i0;1;", "t0;i0;1;", "cr0;1;i0;1;", "xi0;1;r0;0;", "xvz+s1i0;1;"}) {
                StreamFuser x = Ran.of("l4r1;3;", way, 9);
                String figures = Check.figures(x);
                Check.replan(x, pipe);
                int answer = x.run(way, 0);
                Check.due("run(" + way + ", 0) of " + pipe, answer, way == 2 ? StreamFuser.NOT : 0);
                if (answer == 0) continue;
                Check.same("the result stays", Check.results(x), "1 2");
                Check.same("the figures stay", Check.figures(x), figures);
                Check.same("the pairs stay", Check.pairs(x), "4:1 4:2");
            }
        }
        StreamFuser x = Check.planned("ct0;i0;1;r0;3;");
        Check.due("with an i", x.run(2, 9), StreamFuser.NOT);
        x.tidy(0);
        Check.due("when it is simplified away", x.run(2, 9), 3);
    }

    // ---- promises 12 to 16

    private static void results() {
        Check.says(12, "Returns the number; Long.MIN_VALUE + 2 if there is no such index.");
        StreamFuser x = Ran.of("r7;50;", 0, 40);
        Check.due("result(0)", x.result(0), 7);
        Check.due("result(39)", x.result(39), 46);
        for (int i : new int[] {-1, 40, 41, MAX, NO_INT}) Check.due("result(" + i + ")", x.result(i), Check.BAD_LONG);
        x.run(1, 2);
        Check.due("result(1) of two", x.result(1), 8);
        Check.due("result(2) of two", x.result(2), Check.BAD_LONG);
        x.run(1, 0);
        Check.due("result(0) of none", x.result(0), Check.BAD_LONG);
        Check.due("without a run", Check.planned("r0;9;").result(0), Check.BAD_LONG);

        Check.says(12, "Returns a number of the result of the latest run.");
        x = Ran.of("r7;9;", 0, 9);
        Check.replan(x, "r-5;9;");
        Check.due("a new plan is no run", x.result(0), 7);
        x.run(2, 40);
        Check.due("the latest", x.result(0), -5);
        x.run(2, 41);
        Check.due("a refused one is none", x.result(13), 8);
        x.saves(9);
        Check.due("saves() is none", x.result(13), 8);
        extremes("s3", "2147483647 -2147483648");
    }

    private static void folds() {
        Check.says(13, "0: the sum (as a long); 1: the greatest number; 2: the smallest number");
        StreamFuser x = withExtremes("cs3s3");
        x.run(0, 9);
        Check.due("sum", x.fold(0), -2);
        Check.due("greatest", x.fold(1), MAX);
        Check.due("smallest", x.fold(2), NO_INT);
        x.run(0, 1);
        Check.due("of one", x.fold(0), MAX);
        Check.due("of one", x.fold(1), MAX);
        Check.due("of one", x.fold(2), MAX);
        Check.replan(x, "?>0;cs3s3");
        x.run(0, 9);
        Check.due("a sum above the ints", x.fold(0), 2L * MAX);
        Check.replan(x, "?<0;cs3s3");
        x.run(0, 9);
        Check.due("a sum below the ints", x.fold(0), 2L * NO_INT);
        Check.due("greatest of negatives", x.fold(1), NO_INT);
        x = Ran.of("s1", 2, 9);
        Check.due("sum", x.fold(0), 1);
        Check.due("the greatest comes first", x.fold(1), 4);
        Check.due("the smallest is in the middle", x.fold(2), -3);
        Check.due("positive ones alone", Ran.of("r3;6;", 2, 9).fold(2), 3);
        Check.due("negative ones alone", Ran.of("r-6;-3;", 2, 9).fold(1), -4);

        Check.says(13, "Returns the figure; Long.MIN_VALUE + 2 if what is out of range; Long.MIN_VALUE + 3 if what "
            + "is 1 or 2 and the result is empty.");
        StreamFuser[] empty = {new StreamFuser(), Ran.of("r0;9;", 0, 0), Ran.of("s0", 1, 9), Ran.of("cs1s0", 2, 9)};
        for (StreamFuser y : empty) {
            Check.due("fold(0)", y.fold(0), 0);
            Check.due("fold(1)", y.fold(1), Check.NOT_LONG);
            Check.due("fold(2)", y.fold(2), Check.NOT_LONG);
            for (int what : new int[] {-1, 3, MAX, NO_INT}) {
                Check.due("fold(" + what + ") of nothing", y.fold(what), Check.BAD_LONG);
                Check.due("fold(" + what + ")", x.fold(what), Check.BAD_LONG);
            }
        }

        Check.says(13, "Returns a figure of the result of the latest run.");
        Check.replan(x, "r1;2;");
        Check.due("before it", x.fold(0), 1);
        Check.due("before it", x.fold(1), 4);
        x.run(0, 9);
        Check.due("the latest", x.fold(1), 1);
    }

    private static void failures() {
        Check.says(14, "`what`: 0: its number, 0 if there was none; 1: its depth, 0 if there was none");
        StreamFuser x = new StreamFuser();
        Check.due("without a run", x.failure(0), 0);
        Check.due("without a run", x.failure(1), 0);
        x = Ran.of("xxs0vr0;1;", 0, 9);
        Check.due("lost", x.failure(0), 2);
        Check.due("depth", x.failure(1), 2);
        Check.due("zero", Ran.of("/1;r0;1;", 0, 9).failure(0), 1);
        Check.due("spent", Ran.of("?<0;i0;1;", 0, 9).failure(0), 3);
        Check.due("long", Ran.of("r0;61;", 2, 9).failure(0), 4);

        Check.says(14, "Returns the failure of the latest run.");
        Check.replan(x, "r0;3;");
        Check.due("a new plan is no run", x.failure(0), 2);
        x.run(3, 9);
        Check.due("a refused one is none", x.failure(1), 2);
        x.saves(9);
        Check.due("saves() is none", x.failure(0), 2);
        x.run(1, 9);
        Check.due("none any more", x.failure(0), 0);
        Check.due("no depth any more", x.failure(1), 0);

        Check.says(14, "Returns the number; BAD if what is out of range.");
        for (int what : new int[] {-1, 2, MAX, NO_INT}) {
            Check.due("failure(" + what + ")", x.failure(what), StreamFuser.BAD);
            Check.due("failure(" + what + ") without a run", new StreamFuser().failure(what), StreamFuser.BAD);
            Check.due("failure(" + what + ") of a failure", Ran.of("s0", 0, 9).failure(what), StreamFuser.BAD);
        }
    }

    private static void figures() {
        Check.says(15, "Returns a figure of the latest run (all are 0 if there was none).");
        for (int what = 0; what <= 3; what++) {
            Check.due("told(" + what + ") without a run", Check.planned("l1r0;9;").told(what), 0);
        }
        StreamFuser x = Ran.of("l1r0;9;", 2, 9);
        x.saves(40);
        Check.same("saves() is no run", Check.figures(x), "0 0 9 2 18 9");
        x.run(2, 41);
        Check.same("a refused one is none", Check.figures(x), "0 0 9 2 18 9");
        x.run(0, 0);
        Check.same("one that asks for nothing", Check.figures(x), "0 0 0 0 0 0");

        Check.says(15, "0: how many numbers were drawn; 1: in way 0 how often nodes were asked, in way 1 the number "
            + "of steps, in way 2 the number of arrays made; 2: in way 2 the number of elements in these arrays, "
            + "otherwise 0; 3: how many pairs were written down");
        x = Ran.of("d1;l1r0;3;", 2, 9);
        Check.same("by arrays", Check.figures(x), "0 0 3 3 8 3");
        x.run(1, 9);
        Check.same("by steps", Check.figures(x), "0 0 3 4 0 3");
        x.run(2, 9);
        x.run(0, 9);
        Check.same("by asking", Check.figures(x), "0 0 3 11 0 3");

        Check.says(15, "Returns the figure; BAD if what is out of range.");
        for (int what : new int[] {-1, 4, MAX, NO_INT}) {
            Check.due("told(" + what + ")", x.told(what), StreamFuser.BAD);
            Check.due("told(" + what + ") without a run", new StreamFuser().told(what), StreamFuser.BAD);
        }
    }

    private static void pairs() {
        Check.says(16, "What is written down are pairs of a digit and a number, in order; the first 40 are kept, "
            + "all are counted.");
        for (int n : new int[] {0, 1, 39, 40, 41, 60}) {
            StreamFuser x = Ran.of("?<0;l8+100;r0;" + n + ";", n % 3, 1);
            Check.due(n + " pairs", x.told(3), n);
            for (int i = 0; i < n && i < 40; i++) {
                Check.due("digit " + i, x.written(i, 0), 8);
                Check.due("number " + i, x.written(i, 1), 100 + i);
            }
            Check.due("behind the last one", x.written(Math.min(n, 40), 0), Check.BAD_LONG);
            Check.due("behind the last one", x.written(Math.min(n, 40), 1), Check.BAD_LONG);
        }
        Check.due("all of 500", Ran.of("?<0;l1i0;1;", 0, 1).told(3), 500);

        Check.says(16, "l DIGIT P: each number as it is; it is written down, with the digit, as it passes.");
        Ran.gives("l0s1", "4 -3 0");
        Check.same("each one", Check.pairs(Ran.of("l0s1", 0, 9)), "0:4 0:-3 0:0");
        Check.same("no more than pass", Check.pairs(Ran.of("t1;l9s1", 0, 9)), "9:4");
        Check.same("all of the array", Check.pairs(Ran.of("t1;l9s1", 2, 9)), "9:4 9:-3 9:0");
        Check.same("as they are there", Check.pairs(Ran.of("l5+1;l6t1;s1", 1, 9)), "6:4 5:5");
        Check.same("also with a failure", Check.pairs(Ran.of("l5/9;l6s1", 0, 9)), "6:4 5:2 6:-3 5:-3 6:0");
        Check.same("also with a failure", Check.pairs(Ran.of("l5/9;l6s1", 2, 9)), "6:4 6:-3 6:0");
        extremes("l3s3", "2147483647 -2147483648");

        Check.says(16, "`i`: index of the pair, 0 to 39 - `what`: 0: the digit; 1: the number");
        StreamFuser y = Ran.of("?<0;l3r5;50;", 0, 9);
        for (int i = 0; i <= 39; i++) {
            Check.due("written(" + i + ", 0)", y.written(i, 0), 3);
            Check.due("written(" + i + ", 1)", y.written(i, 1), i + 5);
        }

        Check.says(16, "Returns the part; Long.MIN_VALUE + 2 if there is no such pair that was kept, or what is out "
            + "of range.");
        StreamFuser x = Ran.of("?<0;l7r0;45;", 1, 9);
        Check.due("written(0, 0)", x.written(0, 0), 7);
        Check.due("written(39, 1)", x.written(39, 1), 39);
        for (int i : new int[] {-1, 40, 44, 45, MAX, NO_INT}) {
            for (int what = 0; what <= 1; what++) {
                Check.due("written(" + i + ", " + what + ")", x.written(i, what), Check.BAD_LONG);
            }
        }
        for (int what : new int[] {-1, 2, MAX, NO_INT}) {
            Check.due("written(0, " + what + ")", x.written(0, what), Check.BAD_LONG);
        }
        Check.due("without a run", new StreamFuser().written(0, 0), Check.BAD_LONG);

        Check.says(16, "Returns a part of a pair that was written down in the latest run.");
        Check.replan(x, "l2r5;6;");
        Check.due("a new plan is no run", x.written(39, 1), 39);
        x.saves(9);
        Check.due("saves() is none", x.written(0, 0), 7);
        x.run(2, 9);
        Check.same("of the latest alone", Check.pairs(x), "2:5");
        x.run(0, 0);
        Check.same("nothing", Check.pairs(x), "");
    }

    public static void main(String[] args) {
        producers();
        openedProducers();
        arithmetic();
        filters();
        twoPipes();
        limits();
        beginsAnew();
        asking();
        askingMore();
        stepping();
        steppingMore();
        arrays();
        longArrays();
        spent();
        zeroAndLost();
        depths();
        runErrors();
        results();
        folds();
        failures();
        figures();
        pairs();
        Check.end("EdgesOfRunsTest");
    }
}
