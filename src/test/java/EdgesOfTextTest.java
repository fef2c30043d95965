/** Promises 1 to 7, and the part PIPES: each sentence that names a boundary case, on both sides of its edge. */
public final class EdgesOfTextTest {
    private static final int NO_INT = Integer.MIN_VALUE;
    private static final int MAX = Integer.MAX_VALUE;

    private static final String LETTERS = "risc+*/%l?kwtdzx";
    private static final String INSIDE = LETTERS + "uv";
    private static final String DIGITS = "0123456789";
    private static final String KINDS = "<>=";
    private static final String END = ";";

    // 40 bytes each: a pipe, the beginning of one, and the pipe with the most nodes.
    private static final String WHOLE_40 = "l0".repeat(19) + "s0";
    private static final String BEGUN_40 = "l0".repeat(20);
    private static final String CROWDED_40 = "x" + "c".repeat(18) + "u".repeat(19) + "s0";

    // ---- promise 1

    private static void newObject() {
        Check.says(1, "Creates an object with an empty text, no plan, an empty result, no run; all sheets are lost.");
        Check.due("bytes", new StreamFuser().count(1), 0);
        Check.due("wipe()", new StreamFuser().wipe(), 0);
        Check.due("fault()", new StreamFuser().fault(), 0);
        Check.due("plan()", new StreamFuser().plan(), -1000);
        Check.due("nodes", new StreamFuser().count(0), 0);
        Check.due("tidy(0)", new StreamFuser().tidy(0), StreamFuser.NOT);
        Check.due("run(0, 0)", new StreamFuser().run(0, 0), StreamFuser.NOT);
        Check.due("numbers of the result", new StreamFuser().count(2), 0);
        Check.due("result(0)", new StreamFuser().result(0), Check.BAD_LONG);
        Check.due("written(0, 0)", new StreamFuser().written(0, 0), Check.BAD_LONG);
        Check.same("figures", Check.figures(new StreamFuser()), "0 0 0 0 0 0");
        Check.due("findings", new StreamFuser().count(8), 0);
        for (int s = 0; s < 4; s++) {
            Check.due("lose(" + s + ")", new StreamFuser().lose(s), -11);
            Check.due("write(" + s + ")", new StreamFuser().write(s), -11);
            Check.due("lay(" + s + ", 0, 0, 0)", new StreamFuser().lay(s, 0, 0, 0), -11);
        }
    }

    private static void objectsOfTheirOwn() {
        Check.says(1, "Creates an object");
        StreamFuser x = Check.planned("d1;l3r0;3;");
        x.sheet(2, 0, 5);
        x.run(0, 9);
        x.tidy(0);
        x.lose(0);
        StreamFuser y = new StreamFuser();
        for (int what = 0; what <= 8; what++) Check.due("count " + what, y.count(what), what == 7 ? -1 : 0);
        Check.due("another object's sheet", y.lose(2), -11);
        Check.due("digest", y.digest(), new StreamFuser().digest());
        Check.due("the first one stays", x.lose(2), 5);
    }

    // ---- promise 2

    private static void typesBytes() {
        Check.says(2, "Appends a byte to the text.");
        StreamFuser x = new StreamFuser();
        x.type('s');
        x.type('2');
        Check.due("plan()", x.plan(), 1);
        Check.due("in this order", x.node(0, 0), 's');
        Check.due("behind the former one", x.node(0, 1), 2);
        x.type('3');
        Check.due("behind the end of the pipe", x.fault(), 2);

        Check.says(2, "`b`: 0 to 255");
        Check.due("type(0)", new StreamFuser().type(0), 1);
        Check.due("type(255)", new StreamFuser().type(255), 1);

        Check.says(2, "BAD if b is out of range");
        for (int b : new int[] {-1, 256, 256 + 's', 's' - 256, NO_INT, MAX}) {
            x = Check.typed("l");
            Check.due("type(" + b + ")", x.type(b), StreamFuser.BAD);
            Check.due("bytes", x.count(1), 1);
        }
    }

    private static void typesUntilFull() {
        Check.says(2, "Returns the number of bytes then");
        StreamFuser x = new StreamFuser();
        for (int i = 1; i <= 40; i++) Check.due("type number " + i, x.type(WHOLE_40.charAt(i - 1)), i);

        Check.says(2, "FULL if there are 40 bytes.");
        Check.due("the 41st", x.type('s'), StreamFuser.FULL);
        Check.due("the 41st again", x.type(0), StreamFuser.FULL);
        Check.due("a byte out of range: BAD comes first", x.type(256), StreamFuser.BAD);
        Check.due("a byte out of range: BAD comes first", x.type(-1), StreamFuser.BAD);
        Check.due("bytes", x.count(1), 40);
        Check.due("the text stays as it was", x.fault(), StreamFuser.NONE);
        x.plan();
        Check.same("byte by byte", Check.planText(x), WHOLE_40);
        x.wipe();
        Check.due("when wiped", x.type('s'), 1);
        x = Check.typed(WHOLE_40.substring(0, 39));
        Check.due("the 40th", x.type('3'), 40);
    }

    // ---- promise 3

    private static void wipes() {
        Check.says(3, "Empties the text.");
        StreamFuser x = Check.planned("s1");
        x.wipe();
        Check.due("bytes", x.count(1), 0);
        Check.due("fault", x.fault(), 0);
        Check.due("the plan stays", x.count(0), 1);
        Check.due("no plan of it", x.plan(), -1000);
        x.type('s');
        Check.due("what was behind does not come back", x.fault(), 1);

        Check.says(3, "Returns how many bytes it had.");
        Check.due("none", new StreamFuser().wipe(), 0);
        Check.due("one", Check.typed("q").wipe(), 1);
        Check.due("39", Check.typed(WHOLE_40.substring(1)).wipe(), 39);
        x = Check.typed(WHOLE_40);
        x.type('s');
        Check.due("40", x.wipe(), 40);
        Check.due("a second time", x.wipe(), 0);
    }

    // ---- promise 4, PIPES

    /** Behind these bytes, those that are allowed go on or end a pipe, and all others are the fault. */
    private static void follows(String before, String allowed) {
        for (int b = 0; b < 256; b++) {
            String text = before + (char) b;
            int fault = Check.typed(text).fault();
            boolean goes = fault == StreamFuser.NONE || fault == text.length();
            boolean due = allowed.indexOf(b) >= 0;
            Check.due("'" + before + "' and byte " + b, goes ? 1 : 0, due ? 1 : 0);
            if (!due) Check.due("'" + before + "' and byte " + b + ", fault", fault, before.length());
        }
    }

    private static void lettersAndProducers() {
        Check.says(4, "The nodes of a pipe are its letters (and signs) + * / % ? k w t d l r i s u v c z x");
        follows("", LETTERS);
        follows("c", LETTERS);
        follows("cs0", LETTERS);
        follows("l0", LETTERS);
        follows("z+", LETTERS);
        follows("z<s0", LETTERS);
        for (String one : new String[] {"+1;", "*1;", "/1;", "%1;", "?<1;", "k1;", "w<1;", "t1;", "d1;"}) {
            follows(one, LETTERS);
        }

        Check.says(4, "s DIGIT (0 to 3)");
        follows("s", "0123");

        Check.says(4, "u, v: only inside the Q of some x.");
        follows("x", INSIDE);
        follows("xx", INSIDE);
        follows("xl0", INSIDE);
        follows("xcs0", INSIDE);
        follows("xu", LETTERS);
        follows("xv", LETTERS);
        follows("xs0", LETTERS);
        follows("xxu", INSIDE);
        follows("xxuv", LETTERS);
        follows("cxus0", LETTERS);

        Check.says(4, "x Q P: for each number of P, in order, the numbers of Q, opened for it. (In the text Q comes "
            + "first.)");
        follows("xvl0", LETTERS);

        Check.says(4, "There are no blanks.");
        String pipe = "cz+s0xu?<-10;s1l5r0;9;";
        Check.due("fault of " + pipe, Check.typed(pipe).fault(), StreamFuser.NONE);
        for (int i = 0; i <= pipe.length(); i++) {
            for (String blank : new String[] {" ", "\n", "\t"}) {
                String text = pipe.substring(0, i) + blank + pipe.substring(i);
                Check.due("a blank at " + i, Check.typed(text).fault(), i);
            }
        }
    }

    private static void numbers() {
        Check.says(4, "NUMBER is a number from 0 to 9999, or - and a number from 1 to 9999, followed by ;");
        for (String before : new String[] {"+", "*", "/", "?<", "?>", "?=", "w<", "w>", "w=", "r", "r0;", "i", "i0;"}) {
            follows(before, "-" + DIGITS);
            follows(before + "-", "123456789");
            follows(before + "0", END);
            follows(before + "1", DIGITS + END);
            follows(before + "-9", DIGITS + END);
            follows(before + "999", DIGITS + END);
            follows(before + "1000", END);
            follows(before + "9999", END);
            follows(before + "-100", DIGITS + END);
            follows(before + "-9999", END);
        }

        Check.says(4, "WHOLE is a number from 1 to 9999 followed by ;");
        for (String before : new String[] {"%", "k"}) {
            follows(before, "123456789");
            follows(before + "1", DIGITS + END);
            follows(before + "999", DIGITS + END);
            follows(before + "1000", END);
            follows(before + "9999", END);
        }

        Check.says(4, "SMALL is a number from 0 to 99 followed by ;");
        for (String before : new String[] {"t", "d"}) {
            follows(before, DIGITS);
            follows(before + "0", END);
            follows(before + "1", DIGITS + END);
            follows(before + "9", DIGITS + END);
            follows(before + "10", END);
            follows(before + "99", END);
        }

        Check.says(4, "all numbers are without leading zeros.");
        for (String before : new String[] {"+0", "r-0", "i1;0", "%0", "t0", "?<0"}) {
            Check.due(before + "1;", Check.typed(before + "1;").fault(), before.startsWith("r") || before.equals("%0")
                ? before.length() - 1 : before.length());
        }
    }

    private static void signs() {
        Check.says(4, "KIND is one of the characters < > =.");
        follows("?", KINDS);
        follows("w", KINDS);

        Check.says(4, "DIGIT is a digit.");
        follows("l", DIGITS);

        Check.says(4, "z, one of + * <, P Q");
        follows("z", "+*<");

        Check.says(4, "r NUMBER NUMBER: the numbers from a to b - 1");
        follows("r1;2;", "");
        follows("cr1;2;", LETTERS);

        Check.says(4, "i NUMBER NUMBER: a, a + b, a + 2 * b, and so on, without end.");
        follows("i1;2;", "");
    }

    private static void faults() {
        String[] pipes = {
            "r-9999;9999;", "i0;-1;", "s3", "+0;s0", "*9999;s0", "/-9999;s0", "%9999;s0", "l9s0", "?=-1;s0", "k1;s0",
            "w>10;s0", "t99;s0", "d0;s0", "cs0s1", "z<s0s1", "xvs0", "xxuvs0", "xcuvxus0", WHOLE_40, CROWDED_40
        };
        Check.says(4, "Its fault is the index of the first byte such that no pipe begins with the bytes up to and "
            + "including it");
        for (String pipe : pipes) {
            Check.due("behind " + pipe, Check.typed(pipe + "s").fault(), pipe.length() < 40 ? pipe.length() : -1);
            for (int i = 0; i < pipe.length(); i++) {
                String text = pipe.substring(0, i) + "!" + pipe.substring(i + 1);
                Check.due("fault of " + text, Check.typed(text).fault(), i);
            }
        }
        Check.due("the first one of two", Check.typed("l!!").fault(), 1);
        Check.due("what follows does not matter", Check.typed("s0;r0;9;").fault(), 2);

        Check.says(4, "or the number of bytes, if the text is not a pipe, but the beginning of one.");
        for (String pipe : pipes) {
            for (int n = 0; n < pipe.length(); n++) {
                Check.due(n + " bytes of " + pipe, Check.typed(pipe.substring(0, n)).fault(), n);
            }
        }
        Check.due("40 bytes", Check.typed(BEGUN_40).fault(), 40);
        Check.due("40 of x", Check.typed("x".repeat(40)).fault(), 40);
        Check.due("39 of x and a fault", Check.typed("x".repeat(39) + "9").fault(), 39);
        Check.due("a number begun at the end", Check.typed("l0".repeat(19) + "t9").fault(), 40);

        Check.says(4, "Returns the fault; NONE if the text is a pipe.");
        for (String pipe : pipes) Check.due("fault of " + pipe, Check.typed(pipe).fault(), StreamFuser.NONE);
        StreamFuser x = Check.typed("s0");
        x.fault();
        Check.due("asked again", x.fault(), StreamFuser.NONE);
        Check.due("the text stays", x.count(1), 2);
        for (String faulty : new String[] {"c", "cs0", "xc", "xu", "z+", "r0", "s0s0", "!", BEGUN_40, "c".repeat(40)}) {
            x = Check.typed(faulty);
            x.fault();
            Check.retype(x, "s0");
            Check.due("behind the fault of " + faulty, x.fault(), StreamFuser.NONE);
            Check.retype(x, "u");
            Check.due("behind the pipe", x.fault(), 0);
        }

        Check.says(4, "The text has at most 40 bytes and is empty at first.");
        Check.due("empty", new StreamFuser().fault(), 0);
        x = Check.typed(WHOLE_40 + "s");
        Check.due("no 41st byte", x.fault(), StreamFuser.NONE);
        Check.due("bytes", x.count(1), 40);
    }

    // ---- promise 5

    private static void plans() {
        Check.says(5, "Makes the text the plan, in place of the former one.");
        StreamFuser x = Check.planned("cl1s0s1");
        Check.replan(x, "s2");
        Check.due("nodes", x.count(0), 1);
        Check.due("the former one's nodes", x.node(1, 0), NO_INT);
        Check.same("the text of the plan", Check.planText(x), "s2");
        Check.due("the deepest", x.count(7), 0);

        Check.says(5, "Returns the number of its nodes");
        Check.due("one", Check.typed("s0").plan(), 1);
        Check.due("two", Check.typed("t1;s0").plan(), 2);
        Check.due("signs are nodes, that of z is not", Check.typed("z+*1;/1;s0+1;%1;s0").plan(), 7);
        Check.due("40 bytes", Check.typed(WHOLE_40).plan(), 20);
        Check.due("as many as there can be", Check.typed(CROWDED_40).plan(), 39);

        Check.says(5, "-1000 - p if the text has the fault p (nothing changes).");
        x = Check.planned("d1;r0;3;");
        x.run(1, 9);
        String[] texts = {"", "!", "s", "s4", "r0;1", "l0".repeat(19) + "s9", BEGUN_40};
        int[] dues = {0, 0, 1, 1, 4, 39, 40};
        for (int i = 0; i < texts.length; i++) {
            Check.retype(x, texts[i]);
            Check.due("plan of " + texts[i], x.plan(), -1000 - dues[i]);
            Check.due("the text stays", x.count(1), texts[i].length());
            Check.same("the plan stays", Check.planText(x), "d1;r0;3;");
            Check.same("the result stays", Check.results(x), "1 2");
        }
        Check.due("it runs as before", x.run(0, 9), 2);

        Check.says(5, "The plan is a pipe; there is none at first.");
        Check.due("a text alone is none", Check.typed("s0").count(0), 0);
        Check.due("a text alone does not run", Check.typed("s0").run(0, 0), StreamFuser.NOT);
    }

    private static void whatStaysWithAPlan() {
        Check.says(5, "The text stays, and so do the results of the latest run and the counts of the rules.");
        StreamFuser x = Check.planned("t9;t8;/6;l4r-2;2;");
        x.run(0, 9);
        String figures = Check.figures(x);
        x.tidy(0);
        Check.retype(x, "r0;1;");
        Check.due("plan", x.plan(), 1);
        Check.due("the text", x.count(1), 5);
        Check.due("the text is a plan again", x.plan(), 1);
        Check.same("the result", Check.results(x), "-3 -6");
        Check.same("the figures", Check.figures(x), figures);
        Check.same("the pairs", Check.pairs(x), "4:-2 4:-1 4:0");
        Check.due("the failure", x.failure(0), 1);
        Check.due("the rule", x.rules(1), 1);
        Check.due("the rules", x.count(6), 1);
    }

    // ---- promise 6

    private static void nodes(String pipe, int what, int... want) {
        StreamFuser x = Check.planned(pipe);
        for (int k = 0; k < want.length; k++) Check.due("node " + k + " of " + pipe, x.node(k, what), want[k]);
        Check.due("behind the last node of " + pipe, x.node(want.length, what), NO_INT);
    }

    private static void properties() {
        Check.says(6, "0: the code of its letter");
        nodes("l1?<2;k3;w>4;t5;d6;r7;8;", 0, 'l', '?', 'k', 'w', 't', 'd', 'r');
        nodes("+1;*2;/3;%4;i5;6;", 0, '+', '*', '/', '%', 'i');
        nodes("xz+uvcs0s1", 0, 'x', 'z', 'u', 'v', 'c', 's', 's');
        Check.says(6, "1: the code of its KIND, or of the sign behind z, or the digit of l or s as a number 0 to 9, "
            + "NONE if it has none of these");
        nodes("?<0;?>0;?=0;w<0;w>0;w=0;s0", 1, '<', '>', '=', '<', '>', '=', 0);
        nodes("z+z*z<s0s1s2s3", 1, '+', '*', '<', 0, 1, 2, 3);
        nodes("l0l1l5l9i1;2;", 1, 0, 1, 5, 9, -1);
        nodes("+1;*2;/3;%4;k5;t6;d7;r1;2;", 1, -1, -1, -1, -1, -1, -1, -1, -1);
        nodes("xcuvs0", 1, -1, -1, -1, -1, 0);
        Check.says(6, "2: its first number, 0 if it has none");
        nodes("+-9999;*9999;/-1;%1;k9999;t99;d0;s3", 2, -9999, 9999, -1, 1, 9999, 99, 0, 0);
        nodes("?<-5;w>6;l9z+r-7;8;i9;-10;", 2, -5, 6, 0, 0, -7, 9);
        nodes("xcuvs1", 2, 0, 0, 0, 0, 0);
        Check.says(6, "3: its second number, 0 if it has none");
        nodes("+-9999;?<7;t99;l9z+r-7;8;i9;-10;", 3, 0, 0, 0, 0, 0, 8, -10);
        nodes("xcuvs1", 3, 0, 0, 0, 0, 0);
        Check.says(6, "4: how many nodes it is within");
        nodes("s0", 4, 0);
        nodes("cs0l1s1", 4, 0, 1, 1, 2);
        nodes("xcuvt1;z+s0d1;s1", 4, 0, 1, 2, 2, 1, 2, 3, 3, 4);
        Check.due("the deepest of 40 bytes", Check.planned(WHOLE_40).node(19, 4), 19);
        Check.says(6, "each node except the first one is within one or more others.");
        StreamFuser x = Check.planned(CROWDED_40);
        for (int k = 0; k < 39; k++) Check.due("within others: " + k, Math.min(1, x.node(k, 4)), k == 0 ? 0 : 1);
        Check.due("the last one, in x alone", x.node(38, 4), 1);
        Check.due("the innermost u", x.node(19, 4), 19);
    }

    private static void pureNodes() {
        Check.says(6, "5: 1 if it is pure, 0 if not");
        nodes("r0;0;", 5, 1);
        nodes("i1;1;", 5, 1);
        nodes("s0", 5, 0);
        Check.says(6, "A node is pure if neither it nor a node within it is /, l or s.");
        for (String one : new String[] {"+1;", "*1;", "%1;", "?<1;", "k1;", "w<1;", "t1;", "d1;"}) {
            nodes(one + "r0;1;", 5, 1, 1);
            nodes(one + "s0", 5, 0, 0);
            nodes(one + "/1;r0;1;", 5, 0, 0, 1);
            nodes(one + "l0r0;1;", 5, 0, 0, 1);
        }
        nodes("/1;i0;0;", 5, 0, 1);
        nodes("l0i0;0;", 5, 0, 1);
        nodes("cr0;1;i0;0;", 5, 1, 1, 1);
        nodes("cs0i0;0;", 5, 0, 0, 1);
        nodes("ci0;0;s0", 5, 0, 1, 0);
        nodes("z<i0;0;l0r0;1;", 5, 0, 1, 0, 1);
        nodes("xur0;1;", 5, 1, 1, 1);
        nodes("xvs0", 5, 0, 1, 0);
        nodes("xs0r0;1;", 5, 0, 0, 1);
        nodes("cxur0;1;k1;/1;i0;0;", 5, 0, 1, 1, 1, 0, 0, 1);
    }

    private static void noSuchNodes() {
        Check.says(6, "`k`: index of the node, from 0");
        Check.due("the first one", Check.planned("t5;s1").node(0, 0), 't');
        Check.due("the last one", Check.planned("t5;s1").node(1, 0), 's');
        Check.due("the last one of many", Check.planned(CROWDED_40).node(38, 0), 's');

        Check.says(6, "all errors are checked before NONE (there is no value) is returned.");
        Check.due("NONE", Check.planned("t5;s1").node(0, 1), StreamFuser.NONE);
        Check.due("no such node", Check.planned("t5;s1").node(2, 1), NO_INT);
        Check.due("no such node", Check.planned("t5;s1").node(-1, 1), NO_INT);

        Check.says(6, "Returns the property; Integer.MIN_VALUE if there is no such node (also without a plan), or "
            + "what is out of range.");
        StreamFuser x = Check.planned("l7r2;3;");
        for (int k : new int[] {-1, 2, 3, 40, MAX, NO_INT}) {
            for (int what = 0; what <= 5; what++) Check.due("node(" + k + ", " + what + ")", x.node(k, what), NO_INT);
        }
        for (int what : new int[] {-1, 6, MAX, NO_INT}) {
            for (int k = 0; k < 2; k++) Check.due("node(" + k + ", " + what + ")", x.node(k, what), NO_INT);
        }
        Check.due("node(1, 0)", x.node(1, 0), 'r');
        for (int what = -1; what <= 6; what++) {
            Check.due("without a plan", new StreamFuser().node(0, what), NO_INT);
            Check.due("with a text alone", Check.typed("s0").node(0, what), NO_INT);
        }
        x = Check.planned("t1;t2;s0");
        x.tidy(0);
        Check.due("the last one when simplified", x.node(1, 0), 's');
        Check.due("one that is no more", x.node(2, 0), NO_INT);
    }

    // ---- promise 7

    private static void texts() {
        Check.says(7, "Returns a part of the plan, written as a text");
        String[] pipes = {WHOLE_40, CROWDED_40, "z<?=0;s3w>-10;i9999;-1;", "k10;%100;/0;*-9;d99;t0;s1"};
        for (String pipe : pipes) {
            Check.same("text", Check.planText(Check.planned(pipe)), pipe);
        }

        Check.says(7, "`n`: NONE for the number of bytes, otherwise the index of a byte");
        StreamFuser x = Check.planned("l7s3");
        Check.due("text(NONE)", x.text(StreamFuser.NONE), 4);
        Check.due("text(0)", x.text(0), 'l');
        Check.due("text(1)", x.text(1), '7');
        Check.due("text(3)", x.text(3), '3');
        Check.due("40 bytes", Check.planned(WHOLE_40).text(StreamFuser.NONE), 40);
        Check.due("the 40th", Check.planned(WHOLE_40).text(39), '0');

        Check.says(7, "Returns the number, or the byte; BAD if there is no such byte, or no plan.");
        for (int n : new int[] {4, 5, -2, -3, MAX, NO_INT}) Check.due("text(" + n + ")", x.text(n), StreamFuser.BAD);
        for (int n : new int[] {-1, 0, -2, 1}) {
            Check.due("no plan", new StreamFuser().text(n), StreamFuser.BAD);
            Check.due("a text alone", Check.typed("s0").text(n), StreamFuser.BAD);
        }
        Check.due("the 41st of 40", Check.planned(WHOLE_40).text(40), StreamFuser.BAD);
    }

    private static void textsOfSimplifiedPlans() {
        Check.says(7, "after tidy() its numbers may be outside of the ranges given above, and it may be longer than "
            + "40 bytes");
        StreamFuser x = Check.planned("d99;d99;s0");
        x.tidy(0);
        Check.same("a number above 99", Check.planText(x), "d198;s0");
        x = Check.planned("d99;i9999;9999;");
        x.tidy(1);
        Check.same("a number above 9999", Check.planText(x), "i999900;9999;");
        x = Check.planned("d99;i-9999;-9999;");
        x.tidy(1);
        Check.same("a number below -9999", Check.planText(x), "i-999900;-9999;");
        x = Check.planned("cct9;r-9999;9;t9;r-9999;9;t9;r-9999;9;");
        Check.due("bytes before", x.text(StreamFuser.NONE), 38);
        x.tidy(0);
        Check.same("more than 40 bytes", Check.planText(x), "ccr-9999;-9990;r-9999;-9990;r-9999;-9990;");
        Check.due("text(NONE)", x.text(StreamFuser.NONE), 41);
        Check.due("the 41st byte", x.text(40), ';');
        Check.due("no 42nd", x.text(41), StreamFuser.BAD);
        Check.due("the text itself stays", x.count(1), 38);
    }

    public static void main(String[] args) {
        newObject();
        objectsOfTheirOwn();
        typesBytes();
        typesUntilFull();
        wipes();
        lettersAndProducers();
        numbers();
        signs();
        faults();
        plans();
        whatStaysWithAPlan();
        properties();
        pureNodes();
        noSuchNodes();
        texts();
        textsOfSimplifiedPlans();
        Check.end("EdgesOfTextTest");
    }
}
