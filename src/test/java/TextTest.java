/** Promises 1 to 7: a new object, the text, its fault, the plan and its nodes. */
public final class TextTest {
    private static final int NO_INT = Integer.MIN_VALUE;

    private static void newObject() {
        StreamFuser x = new StreamFuser();
        Check.due("new: wipe", x.wipe(), 0);
        Check.due("new: fault", x.fault(), 0);
        Check.due("new: node", x.node(0, 0), NO_INT);
        Check.due("new: text", x.text(StreamFuser.NONE), StreamFuser.BAD);
        Check.due("new: run", x.run(0, 5), StreamFuser.NOT);
        Check.due("new: result", x.result(0), Check.BAD_LONG);
        Check.due("new: sum", x.fold(0), 0);
        Check.same("new: figures", Check.figures(x), "0 0 0 0 0 0");
        for (int s = 0; s < 4; s++) Check.due("new: lose", x.lose(s), -11);
        StreamFuser y = new StreamFuser();
        for (int what = 0; what <= 8; what++) Check.due("new: count " + what, y.count(what), what == 7 ? -1 : 0);
        for (int k = 0; k <= 12; k++) Check.due("new: rules " + k, y.rules(k), 0);
    }

    private static void constants() {
        Check.due("NONE", StreamFuser.NONE, -1);
        Check.due("BAD", StreamFuser.BAD, -2);
        Check.due("NOT", StreamFuser.NOT, -3);
        Check.due("FULL", StreamFuser.FULL, -4);
    }

    private static void typing() {
        StreamFuser x = new StreamFuser();
        Check.due("type(-1)", x.type(-1), StreamFuser.BAD);
        Check.due("type(256)", x.type(256), StreamFuser.BAD);
        Check.due("type(MIN)", x.type(NO_INT), StreamFuser.BAD);
        Check.due("nothing typed", x.count(1), 0);
        for (int i = 1; i <= 40; i++) Check.due("type " + i, x.type(i % 2 == 0 ? 255 : 0), i);
        Check.due("type the 41st", x.type(65), StreamFuser.FULL);
        Check.due("type a bad 41st", x.type(256), StreamFuser.BAD);
        Check.due("bytes", x.count(1), 40);
        Check.due("wipe", x.wipe(), 40);
        Check.due("bytes when wiped", x.count(1), 0);
        Check.due("wipe again", x.wipe(), 0);
        Check.due("type again", x.type('u'), 1);
    }

    private static void fault(String text, int want) {
        StreamFuser x = Check.typed(text);
        Check.due("fault of " + text, x.fault(), want);
        int answer = x.plan();
        if (want == -1) Check.that("plan of " + text, answer > 0);
        else Check.due("plan of " + text, answer, -1000 - want);
        Check.due("bytes of " + text, x.count(1), text.length());
    }

    private static void faultsOfLetters() {
        fault("", 0);
        for (int b = 0; b < 256; b++) {
            boolean begins = "+*/%?kwtdlrisczx".indexOf(b) >= 0;
            fault(String.valueOf((char) b), begins ? 1 : 0);
        }
        fault("u", 0);
        fault("+1;v", 3);
        fault("cs0u", 3);
        fault("xu", 2);
        fault("xuu", 2);
        fault("xvs0", -1);
        fault("xxuuu", 4);
        fault("xxuus1", -1);
        fault("xcuvs0", -1);
        fault("xs0s0", -1);
        fault("s0s0", 2);
        fault("s0;", 2);
        fault("r0;1;r", 5);
    }

    private static void faultsOfMarks() {
        fault("s", 1);
        fault("s3", -1);
        fault("s4", 1);
        fault("sx", 1);
        fault("l9s0", -1);
        fault("l;", 1);
        fault("l", 1);
        for (char letter : new char[] {'?', 'w'}) {
            fault(letter + "<1;s0", -1);
            fault(letter + ">1;s0", -1);
            fault(letter + "=-1;s0", -1);
            fault(letter + "+1;s0", 1);
            fault(letter + "1;s0", 1);
            fault(letter + "<", 2);
        }
        fault("z+s0s0", -1);
        fault("z*s0s0", -1);
        fault("z<s0s0", -1);
        fault("z>s0s0", 1);
        fault("z+s0", 4);
    }

    private static void faultsOfNumbers() {
        for (char letter : new char[] {'+', '*', '/'}) {
            fault(letter + "0;s0", -1);
            fault(letter + "-1;s0", -1);
            fault(letter + "9999;s0", -1);
            fault(letter + "-9999;s0", -1);
            fault(letter + "10000;s0", 5);
            fault(letter + "-10000;s0", 6);
            fault(letter + "01;s0", 2);
            fault(letter + "-0;s0", 2);
            fault(letter + "--1;s0", 2);
            fault(letter + "1-;s0", 2);
            fault(letter + ";s0", 1);
            fault(letter + "-;s0", 2);
            fault(letter + "-", 2);
            fault(letter + "1", 2);
            fault(letter + "1234", 5);
        }
        for (char letter : new char[] {'%', 'k'}) {
            fault(letter + "1;s0", -1);
            fault(letter + "9999;s0", -1);
            fault(letter + "0;s0", 1);
            fault(letter + "-1;s0", 1);
            fault(letter + "10000;s0", 5);
        }
        for (char letter : new char[] {'t', 'd'}) {
            fault(letter + "0;s0", -1);
            fault(letter + "99;s0", -1);
            fault(letter + "100;s0", 3);
            fault(letter + "00;s0", 2);
            fault(letter + "-1;s0", 1);
        }
        fault("r1;2", 4);
        fault("r1;;", 3);
        fault("r-9999;9999;", -1);
        fault("i0;-0;", 4);
        fault("?<01;s0", 3);
    }

    /** The text is bounded, pipes are not: 40 bytes can be the beginning of a longer one. */
    private static void faultsOfLongTexts() {
        StringBuilder forty = new StringBuilder();
        for (int i = 0; i < 20; i++) forty.append("l0");
        fault(forty.toString(), 40);
        fault(forty.substring(0, 38) + "s0", -1);
        fault("cccccccccccccccccccccccccccccccccccccccc", 40);
        fault("xxxxxxxxxxxxxxxxxxxvvvvvvvvvvvvvvvvvvvs0", -1);
        fault("x" + "c".repeat(18) + "u".repeat(19) + "s0", -1);
    }

    /** One object, asked behind each byte: what was read before must not stay. */
    private static void faultsWhileTyping() {
        StreamFuser x = new StreamFuser();
        String text = "cxul1s0d9;r-1;2;t";
        for (int i = 0; i < text.length(); i++) {
            x.type(text.charAt(i));
            boolean whole = i == text.length() - 2;
            int want = whole ? -1 : i == text.length() - 1 ? i : i + 1;
            Check.due("fault behind " + (i + 1) + " bytes", x.fault(), want);
        }
        Check.retype(x, "u");
        Check.due("no x is open any more", x.fault(), 0);
    }

    private static void planning() {
        StreamFuser x = Check.typed("l1r0;3;");
        Check.due("plan", x.plan(), 2);
        Check.due("the text stays", x.count(1), 7);
        x.run(0, 40);
        x.tidy(0);
        Check.retype(x, "t1;+2;d3;d4;s0");
        Check.due("typed, not planned", x.count(0), 2);
        Check.due("another plan", x.plan(), 5);
        Check.same("the results stay", Check.results(x), "0 1 2");
        Check.same("the pairs stay", Check.pairs(x), "1:0 1:1 1:2");
        x.tidy(0);
        int applied = x.count(6);
        Check.that("rules were applied", applied > 0);
        Check.retype(x, "s9");
        Check.due("no plan", x.plan(), -1001);
        Check.due("the former plan stays", x.count(0), 4);
        Check.retype(x, "s2");
        Check.due("a plan again", x.plan(), 1);
        Check.due("the counts of the rules stay", x.count(6), applied);
        Check.due("the rules stay", x.rules(2), 1);
        Check.due("the same text once more", x.plan(), 1);
    }

    private static void nodes(String pipe, int what, int... want) {
        StreamFuser x = Check.planned(pipe);
        Check.due("nodes of " + pipe, x.count(0), want.length);
        for (int k = 0; k < want.length; k++) {
            Check.due("node " + k + ", " + what + " of " + pipe, x.node(k, what), want[k]);
        }
        Check.due("no such node", x.node(want.length, what), NO_INT);
        Check.due("no such node", x.node(-1, what), NO_INT);
    }

    private static void properties() {
        String some = "x?=-7;ul5z*s2cr-1;9999;i3;-4;";
        nodes(some, 0, 'x', '?', 'u', 'l', 'z', 's', 'c', 'r', 'i');
        nodes(some, 1, -1, '=', -1, 5, '*', 2, -1, -1, -1);
        nodes(some, 2, 0, -7, 0, 0, 0, 0, 0, -1, 3);
        nodes(some, 3, 0, 0, 0, 0, 0, 0, 0, 9999, -4);
        nodes(some, 4, 0, 1, 2, 1, 2, 3, 3, 4, 4);
        nodes(some, 5, 0, 1, 1, 0, 0, 0, 1, 1, 1);
        nodes("+1;*2;%3;/4;k5;t6;d7;w<8;r0;1;", 2, 1, 2, 3, 4, 5, 6, 7, 8, 0);
        nodes("+1;*2;%3;/4;k5;t6;d7;w<8;r0;1;", 0, '+', '*', '%', '/', 'k', 't', 'd', 'w', 'r');
        nodes("+1;*2;%3;/4;k5;t6;d7;w<8;r0;1;", 5, 0, 0, 0, 0, 1, 1, 1, 1, 1);
        nodes("cxur0;1;i0;0;", 5, 1, 1, 1, 1, 1);
        nodes("xvl0i0;0;", 5, 0, 1, 0, 1);
        nodes("xl0vi0;0;", 5, 0, 0, 1, 1);
        nodes("z<w>5;s0xvr0;1;", 1, '<', '>', 0, -1, -1, -1);
        StreamFuser x = Check.planned("s1");
        Check.due("no property -1", x.node(0, -1), NO_INT);
        Check.due("no property 6", x.node(0, 6), NO_INT);
        Check.due("no node", x.node(Integer.MAX_VALUE, 0), NO_INT);
    }

    private static void planAsText() {
        String[] pipes = {"x?=-7;ul5z*s2cr-1;9999;i3;-4;", "z<s0w>-9999;s3", "k10;%9;/0;t0;d99;i100;1000;"};
        for (String pipe : pipes) {
            StreamFuser x = Check.planned(pipe);
            Check.same("text of the plan", Check.planText(x), pipe);
            Check.due("text(NONE)", x.text(StreamFuser.NONE), pipe.length());
            Check.due("text behind the end", x.text(pipe.length()), StreamFuser.BAD);
            Check.due("text(-2)", x.text(-2), StreamFuser.BAD);
            x.wipe();
            Check.same("the text of the plan is its own", Check.planText(x), pipe);
        }
        StreamFuser x = Check.planned("d99;i9999;9999;");
        x.tidy(0);
        Check.same("a number out of range", Check.planText(x), "i999900;9999;");
        Check.replan(x, "cd9;i9999;9999;cd9;i9999;9999;r-1;-9;");
        x.tidy(0);
        Check.same("longer numbers", Check.planText(x), "ci99990;9999;i99990;9999;");
    }

    public static void main(String[] args) {
        newObject();
        constants();
        typing();
        faultsOfLetters();
        faultsOfMarks();
        faultsOfNumbers();
        faultsOfLongTexts();
        faultsWhileTyping();
        planning();
        properties();
        planAsText();
        Check.end("TextTest");
    }
}
