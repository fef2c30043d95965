/** Promises 17 to 22: the four sheets and their findings. */
public final class SheetsTest {
    private static final int NO_INT = Integer.MIN_VALUE;
    private static StreamFuser x;

    private static void finds(String what, long got, long want, int finding) {
        Check.due(what, got, want);
        Check.due(what + ": count(8)", x.count(8), finding);
    }

    private static String elements(int s, int form, int n) {
        StringBuilder out = new StringBuilder();
        for (int i = 0; i < n; i++) out.append(i == 0 ? "" : " ").append(x.get(s, form, i));
        return out.toString();
    }

    private static void makes() {
        x = new StreamFuser();
        finds("sheet(-1, 0, 1)", x.sheet(-1, 0, 1), StreamFuser.BAD, 0);
        finds("sheet(4, 0, 1)", x.sheet(4, 0, 1), StreamFuser.BAD, 0);
        finds("sheet(0, -1, 1)", x.sheet(0, -1, 1), StreamFuser.BAD, 0);
        finds("sheet(0, 3, 1)", x.sheet(0, 3, 1), StreamFuser.BAD, 0);
        finds("sheet(0, 0, 61)", x.sheet(0, 0, 61), StreamFuser.BAD, 0);
        finds("sheet(4, 0, -1)", x.sheet(4, 0, -1), StreamFuser.BAD, 0);
        finds("sheet(0, 3, -1)", x.sheet(0, 3, -1), StreamFuser.BAD, 0);
        finds("sheet(0, 0, MAX)", x.sheet(0, 0, Integer.MAX_VALUE), StreamFuser.BAD, 0);
        finds("sheet(0, 0, -1)", x.sheet(0, 0, -1), -15, 5);
        finds("sheet(0, 0, MIN)", x.sheet(0, 0, NO_INT), -15, 5);
        finds("it is still lost", x.lose(0), -11, 1);
        finds("sheet(0, 0, 60)", x.sheet(0, 0, 60), 60, 1);
        finds("lay", x.lay(0, 0, 59, 7), 1, 1);
        finds("sheet(0, 0, -2)", x.sheet(0, 0, -2), -15, 5);
        finds("the former one stays", x.get(0, 0, 59), 7, 5);
        finds("a new one", x.sheet(0, 2, 60), 60, 5);
        finds("its elements are 0", x.get(0, 2, 59), 0, 5);
        finds("another size", x.sheet(0, 1, 2), 2, 5);
        finds("lose", x.lose(0), 2, 5);
        finds("sheet(3, 2, 0)", x.sheet(3, 2, 0), 0, 5);
        finds("lose of no elements", x.lose(3), 0, 5);
        finds("lose again", x.lose(3), -11, 1);
        finds("lose(4)", x.lose(4), StreamFuser.BAD, 1);
        finds("lose(-1)", x.lose(-1), StreamFuser.BAD, 1);
    }

    private static void storesAndReads() {
        x = new StreamFuser();
        int[] values = {0, 127, 128, -129, 32767, 32768, 65535, 70000, Integer.MAX_VALUE, NO_INT};
        for (int form = 0; form < 3; form++) {
            x.sheet(form, form, values.length);
            for (int i = 0; i < values.length; i++) {
                Check.due("lay", x.lay(form, form, i, values[i]), 1);
                int want = form == 0 ? (byte) values[i] : form == 1 ? (short) values[i] : values[i];
                Check.due("get " + values[i] + " in form " + form, x.get(form, form, i), want);
            }
        }
        Check.same("bytes", elements(0, 0, 8), "0 127 -128 127 -1 0 -1 112");
        Check.same("shorts", elements(1, 1, 8), "0 127 128 -129 32767 -32768 -1 4464");
    }

    /** Errors of lay and get, of which the first one in the order of the document is told. */
    private static void elementErrors() {
        x = new StreamFuser();
        finds("lay(-1..)", x.lay(-1, 0, 0, 1), StreamFuser.BAD, 0);
        finds("lay(4..)", x.lay(4, 0, 0, 1), StreamFuser.BAD, 0);
        finds("lay(0, 3..)", x.lay(0, 3, 0, 1), StreamFuser.BAD, 0);
        finds("lay(0, -1..)", x.lay(0, -1, 0, 1), StreamFuser.BAD, 0);
        finds("get(4..)", x.get(4, 0, 0), NO_INT, 0);
        finds("get(-1..)", x.get(-1, 0, 0), NO_INT, 0);
        finds("get(0, 3..)", x.get(0, 3, 0), NO_INT, 0);
        finds("get(0, -1..)", x.get(0, -1, 0), NO_INT, 0);
        finds("lay in a lost one", x.lay(0, 1, -1, 1), -11, 1);
        x.sheet(0, 0, 3);
        finds("lay in another form", x.lay(0, 1, 9, 1), -13, 3);
        finds("lay behind the end", x.lay(0, 0, 3, 1), -12, 2);
        finds("lay before the first", x.lay(0, 0, -1, 1), -12, 2);
        finds("get in a lost one", x.get(1, 0, 0), NO_INT, 1);
        finds("get in another form", x.get(0, 2, 9), NO_INT, 3);
        finds("get behind the end", x.get(0, 0, 3), NO_INT, 2);
        finds("get of a bad sheet", x.get(9, 0, 3), NO_INT, 2);
        finds("get in another form", x.get(0, 2, 0), NO_INT, 3);
        finds("get before the first", x.get(0, 0, -1), NO_INT, 2);
        finds("get MIN", x.get(0, 0, NO_INT), NO_INT, 2);
        finds("get", x.get(0, 0, 2), 0, 2);
        Check.same("nothing was stored", elements(0, 0, 3), "0 0 0");
        x.sheet(2, 2, 0);
        finds("no element at all", x.lay(2, 2, 0, 1), -12, 2);
    }

    private static void number(int s, int form, int n) {
        x.sheet(s, form, n);
        for (int i = 0; i < n; i++) x.lay(s, form, i, i + 1);
    }

    private static void copies() {
        x = new StreamFuser();
        number(0, 1, 6);
        x.sheet(1, 1, 4);
        finds("copy to another one", x.copy(0, 2, 1, 1, 3), 1, 0);
        Check.same("copied", elements(1, 1, 4), "0 3 4 5");
        Check.same("the source stays", elements(0, 1, 6), "1 2 3 4 5 6");
        finds("copy forward within one", x.copy(0, 0, 0, 1, 5), 1, 0);
        Check.same("forward", elements(0, 1, 6), "1 1 2 3 4 5");
        number(0, 1, 6);
        finds("copy back within one", x.copy(0, 2, 0, 0, 4), 1, 0);
        Check.same("back", elements(0, 1, 6), "3 4 5 6 5 6");
        finds("copy nothing at the ends", x.copy(0, 6, 1, 4, 0), 1, 0);
        finds("copy all", x.copy(1, 0, 0, 0, 4), 1, 0);
        Check.same("all", elements(0, 1, 6), "0 3 4 5 5 6");
    }

    private static void copyErrors() {
        x = new StreamFuser();
        finds("copy(-1..)", x.copy(-1, 0, 0, 0, 0), StreamFuser.BAD, 0);
        finds("copy(4..)", x.copy(4, 0, 0, 0, 0), StreamFuser.BAD, 0);
        finds("copy to -1", x.copy(0, 0, -1, 0, 0), StreamFuser.BAD, 0);
        finds("copy to 4", x.copy(0, 0, 4, 0, 0), StreamFuser.BAD, 0);
        finds("both lost", x.copy(0, -1, 1, 0, 0), -11, 1);
        number(0, 0, 3);
        finds("the destination lost", x.copy(0, -1, 1, 0, 0), -11, 1);
        finds("the source lost", x.copy(1, -1, 0, 0, 0), -11, 1);
        x.sheet(1, 2, 3);
        finds("other types", x.copy(0, -1, 1, 0, 0), -14, 4);
        number(1, 0, 4);
        finds("i negative", x.copy(0, -1, 1, 0, 1), -12, 2);
        finds("other types again", x.copy(0, 0, 1, 0, 1), 1, 2);
        finds("j negative", x.copy(0, 0, 1, -1, 1), -12, 2);
        finds("n negative", x.copy(0, 1, 1, 1, -1), -12, 2);
        finds("i + n too great", x.copy(0, 1, 1, 0, 3), -12, 2);
        finds("j + n too great", x.copy(0, 0, 1, 2, 3), -12, 2);
        finds("i too great for n = 0", x.copy(0, 4, 1, 0, 0), -12, 2);
        finds("j too great for n = 0", x.copy(0, 0, 1, 5, 0), -12, 2);
        finds("overflow of i + n", x.copy(0, Integer.MAX_VALUE, 1, 0, 1), -12, 2);
        finds("overflow of j + n", x.copy(0, 1, 1, Integer.MAX_VALUE, 2), -12, 2);
        finds("n itself", x.copy(0, 1, 1, 1, Integer.MAX_VALUE), -12, 2);
        finds("within one", x.copy(0, 0, 0, 1, 3), -12, 2);
        Check.same("nothing was copied", elements(0, 0, 3), "1 2 3");
        Check.same("only the one that was right", elements(1, 0, 4), "1 2 3 4");
    }

    private static void writes() {
        x = new StreamFuser();
        finds("write(4)", x.write(4), StreamFuser.BAD, 0);
        finds("write(-1)", x.write(-1), StreamFuser.BAD, 0);
        finds("write in a lost one", x.write(0), -11, 1);
        number(0, 0, 4);
        finds("write without a run", x.write(0), 0, 1);
        Check.same("nothing written", elements(0, 0, 4), "1 2 3 4");
        Check.replan(x, "*100;r1;4;");
        x.run(0, 9);
        finds("fewer numbers than elements", x.write(0), 3, 1);
        Check.same("cast to bytes", elements(0, 0, 4), "100 -56 44 4");
        number(1, 1, 2);
        finds("fewer elements than numbers", x.write(1), 2, 1);
        Check.same("shorts", elements(1, 1, 2), "100 200");
        number(2, 2, 0);
        finds("no elements", x.write(2), 0, 1);
        Check.replan(x, "cs0s1");
        Check.due("the sheets are asked", x.run(2, 9), 6);
        Check.same("their elements", Check.results(x), "100 -56 44 4 100 200");
        x.lay(1, 1, 0, 7);
        Check.same("the result stays", Check.results(x), "100 -56 44 4 100 200");
        x.run(1, 9);
        Check.same("as they are when they are asked for", Check.results(x), "100 -56 44 4 7 200");
        x.lose(1);
        Check.due("a lost one", x.run(0, 9), 4);
        Check.due("lost", x.failure(0), 2);
        Check.due("a failure is no finding", x.count(8), 1);
    }

    public static void main(String[] args) {
        makes();
        storesAndReads();
        elementErrors();
        copies();
        copyErrors();
        writes();
        Check.end("SheetsTest");
    }
}
