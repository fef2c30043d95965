/** Promises 17 to 22, and the parts SHEETS and ERRORS: each sentence that names a boundary case. */
public final class EdgesOfSheetsTest {
    private static final int NO_INT = Integer.MIN_VALUE;
    private static final int MAX = Integer.MAX_VALUE;
    private static final int[] NO_SHEETS = {-1, 4, 5, NO_INT, MAX};
    private static final int[] NO_FORMS = {-1, 3, NO_INT, MAX};

    private static String elements(StreamFuser x, int s, int form, int n) {
        StringBuilder out = new StringBuilder();
        for (int i = 0; i < n; i++) out.append(i == 0 ? "" : " ").append(x.get(s, form, i));
        return out.toString();
    }

    /** A sheet with these elements. */
    private static StreamFuser fill(StreamFuser x, int s, int form, int... elements) {
        Check.due("sheet", x.sheet(s, form, elements.length), elements.length);
        for (int i = 0; i < elements.length; i++) Check.due("lay", x.lay(s, form, i, elements[i]), 1);
        return x;
    }

    // ---- promise 17

    private static void sheets() {
        Check.says(17, "Gives a sheet a new array, whose elements are 0, in place of what it holds.");
        StreamFuser x = fill(new StreamFuser(), 1, 2, 7, 8, 9);
        Check.due("in place of a longer one", x.sheet(1, 2, 2), 2);
        Check.same("elements", elements(x, 1, 2, 2), "0 0");
        Check.due("no third one", x.get(1, 2, 2), NO_INT);
        Check.due("a longer one again", x.sheet(1, 2, 3), 3);
        Check.same("elements", elements(x, 1, 2, 3), "0 0 0");
        fill(x, 1, 2, 7, 8, 9);
        Check.due("of another type", x.sheet(1, 0, 3), 3);
        Check.same("elements", elements(x, 1, 0, 3), "0 0 0");
        Check.due("the former type", x.get(1, 2, 0), NO_INT);
        x.lose(1);
        Check.due("when it was lost", x.sheet(1, 0, 3), 3);
        Check.same("elements", elements(x, 1, 0, 3), "0 0 0");
        for (int s : new int[] {0, 2, 3}) Check.due("others stay lost", x.lose(s), -11);

        Check.says(17, "`s`: number of a sheet, 0 to 3");
        for (int s = 0; s <= 3; s++) Check.due("sheet(" + s + ", 0, 1)", x.sheet(s, 0, 1), 1);
        Check.says(17, "`form`: element type, 0 to 2");
        for (int form = 0; form <= 2; form++) Check.due("sheet(0, " + form + ", 1)", x.sheet(0, form, 1), 1);
        Check.says(17, "`n`: number of elements, at most 60");
        for (int n : new int[] {0, 1, 59, 60}) {
            Check.due("sheet(2, 1, " + n + ")", x.sheet(2, 1, n), n);
            Check.due("the last element", x.get(2, 1, n - 1), n == 0 ? NO_INT : 0);
            Check.due("none behind it", x.get(2, 1, n), NO_INT);
        }

        Check.says(17, "A sheet is lost (at first) or holds an array of 0 to 60 elements of type 0 byte, 1 short or "
            + "2 int.");
        Check.due("at first", new StreamFuser().get(0, 0, 0), NO_INT);
        for (int s = 0; s <= 3; s++) {
            for (int form = 0; form <= 2; form++) {
                x = new StreamFuser();
                Check.due("60 elements", x.sheet(s, form, 60), 60);
                Check.due("the 60th", x.lay(s, form, 59, 1), 1);
                Check.due("no 61st", x.lay(s, form, 60, 1), -12);
                for (int t = 0; t <= 3; t++) Check.due("lose(" + t + ")", x.lose(t), t == s ? 60 : -11);
            }
        }
    }

    private static void sheetErrors() {
        Check.says(17, "Returns n; BAD if s or form is out of range, or n is above 60; -15 if n is negative.");
        for (int s : NO_SHEETS) {
            Refused.plainly("sheet(" + s + ", 0, 1)", x -> x.sheet(s, 0, 1), StreamFuser.BAD);
            Refused.plainly("sheet(" + s + ", 0, -1), BAD first", x -> x.sheet(s, 0, -1), StreamFuser.BAD);
        }
        for (int form : NO_FORMS) {
            Refused.plainly("sheet(0, " + form + ", 1)", x -> x.sheet(0, form, 1), StreamFuser.BAD);
            Refused.plainly("sheet(3, " + form + ", -1), BAD first", x -> x.sheet(3, form, -1), StreamFuser.BAD);
        }
        for (int n : new int[] {61, 62, MAX}) {
            Refused.plainly("sheet(0, 0, " + n + ")", x -> x.sheet(0, 0, n), StreamFuser.BAD);
            Refused.plainly("sheet(3, 2, " + n + ")", x -> x.sheet(3, 2, n), StreamFuser.BAD);
        }
        Check.says(17, "-15 a negative length (size).");
        for (int n : new int[] {-1, -2, NO_INT}) {
            Refused.finding("sheet(0, 0, " + n + ")", x -> x.sheet(0, 0, n), -15, 5);
            Refused.finding("sheet(3, 2, " + n + ")", x -> x.sheet(3, 2, n), -15, 5);
        }
    }

    // ---- promise 18

    private static void loses() {
        Check.says(18, "`s`: number of a sheet");
        for (int s = 0; s <= 3; s++) {
            StreamFuser y = new StreamFuser();
            for (int t = 0; t <= 3; t++) y.sheet(t, 0, t + 1);
            Check.due("lose(" + s + ")", y.lose(s), s + 1);
            for (int t = 0; t <= 3; t++) Check.due("get of " + t, y.get(t, 0, t), s == t ? NO_INT : 0);
        }

        Check.says(18, "Makes a sheet lost.");
        StreamFuser x = Refused.object(0);
        x.lose(1);
        Check.due("lay", x.lay(1, 1, 0, 1), -11);
        Check.due("write", x.write(1), -11);
        Check.due("others stay", x.get(0, 0, 1), 5);
        Check.replan(x, "s1");
        x.run(0, 9);
        Check.due("s", x.failure(0), 2);

        Check.says(18, "Returns the number of elements that it had; BAD if s is out of range; -11 if the sheet is "
            + "lost.");
        for (int n : new int[] {0, 1, 60}) {
            for (int s = 0; s <= 3; s++) {
                x = new StreamFuser();
                x.sheet(s, 1, n);
                Check.due("lose of " + n, x.lose(s), n);
                Check.due("no finding", x.count(8), 0);
                Check.due("lose again", x.lose(s), -11);
                Check.due("the finding", x.count(8), 1);
            }
        }
        for (int s : NO_SHEETS) Refused.plainly("lose(" + s + ")", y -> y.lose(s), StreamFuser.BAD);
        Check.says(18, "-11 the sheet is lost (null)");
        Refused.finding("lose(3)", y -> y.lose(3), -11, 1);
    }

    // ---- promise 19

    private static void laid(int form, int v, int want) {
        StreamFuser x = new StreamFuser();
        x.sheet(3, form, 2);
        Check.due("lay(3, " + form + ", 1, " + v + ")", x.lay(3, form, 1, v), 1);
        Check.due("get of " + v + " in form " + form, x.get(3, form, 1), want);
        Check.due("the other one", x.get(3, form, 0), 0);
    }

    private static void stores() {
        Check.says(19, "- `s`: number of a sheet - `form`: the element type that the array must have, 0 to 2 - `i`: "
            + "index of the element - `v`: the value");
        for (int s = 0; s <= 3; s++) {
            for (int form = 0; form <= 2; form++) {
                StreamFuser y = new StreamFuser();
                for (int t = 0; t <= 3; t++) y.sheet(t, form, 3);
                Check.due("lay(" + s + ", " + form + ", 2, 9)", y.lay(s, form, 2, 9), 1);
                for (int t = 0; t <= 3; t++) {
                    Check.same("elements", elements(y, t, form, 3), s == t ? "0 0 9" : "0 0 0");
                }
            }
        }

        Check.says(19, "Values that are stored are cast to the element type.");
        int[][] bytes = {
            {0, 0}, {1, 1}, {-1, -1}, {127, 127}, {128, -128}, {-128, -128}, {-129, 127}, {255, -1}, {256, 0},
            {300, 44}, {32768, 0}, {MAX, -1}, {NO_INT, 0}
        };
        for (int[] one : bytes) laid(0, one[0], one[1]);
        int[][] shorts = {
            {127, 127}, {128, 128}, {-129, -129}, {32767, 32767}, {32768, -32768}, {-32768, -32768}, {-32769, 32767},
            {65535, -1}, {65536, 0}, {MAX, -1}, {NO_INT, 0}
        };
        for (int[] one : shorts) laid(1, one[0], one[1]);
        for (int v : new int[] {0, -1, 128, 32768, 65536, MAX, NO_INT + 1, NO_INT}) laid(2, v, v);

        Check.says(19, "Stores a value in an element.");
        StreamFuser x = fill(new StreamFuser(), 0, 2, 1, 2, 3);
        fill(x, 1, 2, 4, 5, 6);
        x.lay(0, 2, 0, 7);
        x.lay(0, 2, 2, 9);
        Check.same("the first and the last", elements(x, 0, 2, 3), "7 2 9");
        Check.same("another sheet", elements(x, 1, 2, 3), "4 5 6");
        Check.due("no finding", x.count(8), 0);
    }

    private static void storeErrors() {
        Check.says(19, "Returns 1; BAD if s or form is out of range; -11 if the sheet is lost; -13 if the array has "
            + "another element type; -12 if i is out of bounds.");
        for (int s : NO_SHEETS) {
            Refused.plainly("lay(" + s + ", 0, 0, 1)", x -> x.lay(s, 0, 0, 1), StreamFuser.BAD);
            Refused.plainly("lay(" + s + ", 3, -1, 1)", x -> x.lay(s, 3, -1, 1), StreamFuser.BAD);
        }
        for (int form : NO_FORMS) {
            Refused.plainly("lay(0, " + form + ", 0, 1)", x -> x.lay(0, form, 0, 1), StreamFuser.BAD);
            Refused.plainly("lay(3, " + form + ", 0, 1), BAD before lost", x -> x.lay(3, form, 0, 1), StreamFuser.BAD);
            Refused.plainly("lay(0, " + form + ", 9, 1), BAD before index", x -> x.lay(0, form, 9, 1), StreamFuser.BAD);
        }
        for (int form = 0; form <= 2; form++) {
            int f = form;
            Refused.finding("lay(3, " + f + ", 0, 1)", x -> x.lay(3, f, 0, 1), -11, 1);
            Refused.finding("lay(3, " + f + ", -1, 1), lost before index", x -> x.lay(3, f, -1, 1), -11, 1);
            if (f == 1) continue;
            Refused.finding("lay(1, " + f + ", 0, 1)", x -> x.lay(1, f, 0, 1), -13, 3);
            Refused.finding("lay(1, " + f + ", 2, 1), cast before index", x -> x.lay(1, f, 2, 1), -13, 3);
            Refused.finding("lay(1, " + f + ", -1, 1), cast before index", x -> x.lay(1, f, -1, 1), -13, 3);
        }
        for (int i : new int[] {-1, 3, 4, 60, NO_INT, MAX}) {
            Refused.finding("lay(0, 0, " + i + ", 1)", x -> x.lay(0, 0, i, 1), -12, 2);
        }
        StreamFuser x = new StreamFuser();
        x.sheet(0, 0, 0);
        Check.due("of no elements", x.lay(0, 0, 0, 1), -12);
        Check.due("of no elements, and another type", x.lay(0, 1, 0, 1), -13);
        x.sheet(0, 0, 60);
        Check.due("the 60th", x.lay(0, 0, 59, 1), 1);
        Check.due("the 61st", x.lay(0, 0, 60, 1), -12);

        Check.says(19, "Findings: -11 the sheet is lost (null); -12 there is no such element (index); -13 the array "
            + "has another element type (cast)");
        Refused.finding("a lost one", y -> y.lay(3, 0, 0, 1), -11, 1);
        Refused.finding("no such element", y -> y.lay(2, 2, 4, 1), -12, 2);
        Refused.finding("another type", y -> y.lay(2, 1, 0, 1), -13, 3);
    }

    // ---- promise 20

    private static void reads() {
        Check.says(20, "- `s`: number of a sheet - `form`: the element type that the array must have, 0 to 2 - `i`: "
            + "index of the element");
        for (int s = 0; s <= 3; s++) {
            for (int form = 0; form <= 2; form++) {
                StreamFuser y = fill(new StreamFuser(), s, form, 7, 8, 9);
                for (int other = 0; other <= 2; other++) {
                    String want = form == other ? "7 8 9" : NO_INT + " " + NO_INT + " " + NO_INT;
                    Check.same("form " + other + " of a form " + form, elements(y, s, other, 3), want);
                }
            }
        }

        Check.says(20, "Returns an element.");
        StreamFuser x = fill(new StreamFuser(), 2, 2, 5, -6, 0, MAX, NO_INT);
        Check.same("elements", elements(x, 2, 2, 5), "5 -6 0 2147483647 -2147483648");
        Check.due("the smallest one is no error", x.count(8), 0);
        x.lose(2);
        fill(x, 0, 0, -128, 127);
        fill(x, 1, 1, -32768, 32767);
        Check.same("bytes", elements(x, 0, 0, 2), "-128 127");
        Check.same("shorts", elements(x, 1, 1, 2), "-32768 32767");

        Check.says(20, "Returns the element; Integer.MIN_VALUE for the same errors as for lay(); count(8) tells a "
            + "finding.");
        for (int s : NO_SHEETS) Refused.plainly("get(" + s + ", 0, 0)", y -> y.get(s, 0, 0), NO_INT);
        for (int form : NO_FORMS) {
            Refused.plainly("get(0, " + form + ", 0)", y -> y.get(0, form, 0), NO_INT);
            Refused.plainly("get(3, " + form + ", 0), BAD before lost", y -> y.get(3, form, 0), NO_INT);
            Refused.plainly("get(0, " + form + ", 9), BAD before index", y -> y.get(0, form, 9), NO_INT);
        }
        for (int form = 0; form <= 2; form++) {
            int f = form;
            Refused.finding("get(3, " + f + ", 0)", y -> y.get(3, f, 0), NO_INT, 1);
            Refused.finding("get(3, " + f + ", -1), lost before index", y -> y.get(3, f, -1), NO_INT, 1);
            if (f == 1) continue;
            Refused.finding("get(1, " + f + ", 0)", y -> y.get(1, f, 0), NO_INT, 3);
            Refused.finding("get(1, " + f + ", 2), cast before index", y -> y.get(1, f, 2), NO_INT, 3);
        }
        for (int i : new int[] {-1, 2, 3, NO_INT, MAX}) {
            Refused.finding("get(1, 1, " + i + ")", y -> y.get(1, 1, i), NO_INT, 2);
        }
        x.sheet(0, 0, 0);
        Check.due("of no elements", x.get(0, 0, 0), NO_INT);
        Check.due("the finding", x.count(8), 2);
    }

    // ---- promise 21

    private static void copied(String name, int i, int j, int n, String want) {
        StreamFuser x = fill(new StreamFuser(), 1, 1, 1, 2, 3, 4, 5);
        Check.due("within one, " + name, x.copy(1, i, 1, j, n), 1);
        Check.same("within one, " + name, elements(x, 1, 1, 5), want);
    }

    private static void copies() {
        Check.says(21, "- `s`: source sheet - `i`: index of the first source element - `t`: destination sheet - "
            + "`j`: index of the first destination element - `n`: number of elements");
        for (int s = 0; s <= 3; s++) {
            for (int t = 0; t <= 3; t++) {
                if (s == t) continue;
                StreamFuser y = fill(new StreamFuser(), s, 2, 1, 2, 3, 4, 5);
                fill(y, t, 2, 6, 7, 8, 9, 10);
                Check.due("copy(" + s + ", 1, " + t + ", 3, 2)", y.copy(s, 1, t, 3, 2), 1);
                Check.same("the source", elements(y, s, 2, 5), "1 2 3 4 5");
                Check.same("the destination", elements(y, t, 2, 5), "6 7 8 2 3");
            }
        }

        Check.says(21, "Copies n elements of one sheet to another one, or within one sheet, as if they were first "
            + "copied to a temporary array.");
        copied("forward by one", 0, 1, 4, "1 1 2 3 4");
        copied("forward by two", 0, 2, 3, "1 2 1 2 3");
        copied("back by one", 1, 0, 4, "2 3 4 5 5");
        copied("back by two", 2, 0, 3, "3 4 5 4 5");
        copied("to itself", 0, 0, 5, "1 2 3 4 5");
        copied("one", 4, 0, 1, "5 2 3 4 5");
        copied("none", 0, 5, 0, "1 2 3 4 5");
        for (int form = 0; form <= 2; form++) {
            StreamFuser x = fill(new StreamFuser(), 0, form, 1, 2, 3);
            fill(x, 3, form, 4, 5, 6, 7);
            Check.due("all of it", x.copy(0, 0, 3, 1, 3), 1);
            Check.same("to another one", elements(x, 3, form, 4), "4 1 2 3");
            Check.same("the source stays", elements(x, 0, form, 3), "1 2 3");
            Check.due("the end", x.copy(3, 3, 0, 0, 1), 1);
            Check.same("back", elements(x, 0, form, 3), "3 2 3");
            Check.due("no finding", x.count(8), 0);
        }
        StreamFuser x = new StreamFuser();
        x.sheet(0, 2, 60);
        x.sheet(1, 2, 60);
        x.lay(0, 2, 59, NO_INT);
        Check.due("all of 60", x.copy(0, 0, 1, 0, 60), 1);
        Check.due("the last one", x.get(1, 2, 59), NO_INT);
        Check.due("61 of 60", x.copy(0, 0, 1, 0, 61), -12);
    }

    private static void copyErrors() {
        Check.says(21, "Returns 1; BAD if s or t is out of range; -11 if one of the sheets is lost; -14 if the "
            + "element types differ");
        for (int s : NO_SHEETS) {
            Refused.plainly("copy(" + s + ", 0, 0, 0, 0)", x -> x.copy(s, 0, 0, 0, 0), StreamFuser.BAD);
            Refused.plainly("copy(0, 0, " + s + ", 0, 0)", x -> x.copy(0, 0, s, 0, 0), StreamFuser.BAD);
            Refused.plainly("BAD before lost", x -> x.copy(3, -1, s, 0, 0), StreamFuser.BAD);
            Refused.plainly("BAD before lost", x -> x.copy(s, -1, 3, 0, 0), StreamFuser.BAD);
            Refused.plainly("both", x -> x.copy(s, 0, s, 0, 0), StreamFuser.BAD);
        }
        Refused.finding("the source", x -> x.copy(3, 0, 0, 0, 0), -11, 1);
        Refused.finding("the destination", x -> x.copy(0, 0, 3, 0, 0), -11, 1);
        Refused.finding("both", x -> x.copy(3, 0, 3, 0, 0), -11, 1);
        Refused.finding("lost before index", x -> x.copy(0, -1, 3, 0, 0), -11, 1);
        for (int s = 0; s < 3; s++) {
            for (int t = 0; t < 3; t++) {
                int from = s;
                int to = t;
                if (s != t) Refused.finding("types", x -> x.copy(from, 0, to, 0, 1), -14, 4);
                if (s != t) Refused.finding("types before index", x -> x.copy(from, -1, to, 0, 1), -14, 4);
                if (s != t) Refused.finding("types for n = 0", x -> x.copy(from, 0, to, 0, 0), -14, 4);
            }
        }
        Check.says(21, "-14 two arrays have different element types (store)");
        Refused.finding("bytes to ints", x -> x.copy(0, 0, 2, 0, 1), -14, 4);
    }

    private static void copyBounds() {
        Check.says(21, "-12 if i, j or n is negative, or i + n or j + n is greater than the length of its array "
            + "(this is checked for n = 0, too, and without overflow).");
        // Within sheet 2, which has 4 elements: i, j, n.
        int[][] wrong = {
            {-1, 0, 1}, {0, -1, 1}, {0, 0, -1}, {-1, 0, 0}, {0, -1, 0}, {1, 1, -1}, {4, 4, -1}, {0, 0, 5}, {1, 0, 4},
            {0, 1, 4}, {4, 0, 1}, {0, 4, 1}, {5, 0, 0}, {0, 5, 0}, {5, 5, 0}, {MAX, 0, 1}, {0, MAX, 1}, {1, 0, MAX},
            {0, 1, MAX}, {MAX, MAX, MAX}, {MAX, 0, 0}, {0, MAX, 0}, {NO_INT, 0, 0}, {0, NO_INT, 0}, {0, 0, NO_INT},
            {NO_INT, NO_INT, NO_INT}, {MAX, MAX, 2}, {-1, -1, 2}, {5, 5, -1}
        };
        for (int[] one : wrong) {
            String name = "copy(2, " + one[0] + ", 2, " + one[1] + ", " + one[2] + ")";
            Refused.finding(name, x -> x.copy(2, one[0], 2, one[1], one[2]), -12, 2);
        }
        int[][] right = {{0, 0, 4}, {1, 0, 3}, {0, 1, 3}, {4, 4, 0}, {4, 0, 0}, {0, 4, 0}, {0, 0, 0}, {3, 3, 1}};
        for (int[] one : right) {
            StreamFuser x = Refused.object(5);
            String name = "copy(2, " + one[0] + ", 2, " + one[1] + ", " + one[2] + ")";
            Check.due(name, x.copy(2, one[0], 2, one[1], one[2]), 1);
            Check.due(name + ": no finding", x.count(8), 5);
        }
        StreamFuser x = fill(new StreamFuser(), 0, 0, 1, 2, 3);
        fill(x, 1, 0, 4, 5);
        Check.due("the shorter one's end", x.copy(0, 0, 1, 0, 2), 1);
        Check.due("behind it", x.copy(0, 0, 1, 0, 3), -12);
        Check.due("behind it, as the source", x.copy(1, 0, 0, 0, 3), -12);
        Check.due("each has its own length", x.copy(0, 3, 1, 2, 0), 1);
        Check.due("the source's is not the destination's", x.copy(0, 0, 1, 3, 0), -12);
        x.sheet(1, 0, 0);
        Check.due("of no elements", x.copy(1, 0, 0, 0, 0), 1);
        Check.due("one of no elements", x.copy(1, 0, 0, 0, 1), -12);
    }

    // ---- promise 22

    private static void writes() {
        Check.says(22, "`s`: number of a sheet");
        for (int s = 0; s <= 3; s++) {
            StreamFuser y = Check.planned("r5;7;");
            y.run(0, 9);
            for (int t = 0; t <= 3; t++) y.sheet(t, 1, 2);
            Check.due("write(" + s + ")", y.write(s), 2);
            for (int t = 0; t <= 3; t++) Check.same("sheet " + t, elements(y, t, 1, 2), s == t ? "5 6" : "0 0");
        }

        Check.says(22, "Writes numbers of the result of the latest run to the elements of a sheet, from element 0 "
            + "on, as many as there are elements and numbers.");
        StreamFuser x = Check.planned("*100;r1;4;");
        fill(x, 0, 2, 1, 2, 3, 4);
        Check.due("without a run", x.write(0), 0);
        Check.same("nothing", elements(x, 0, 2, 4), "1 2 3 4");
        x.run(0, 9);
        Check.due("more elements", x.write(0), 3);
        Check.same("the last one stays", elements(x, 0, 2, 4), "100 200 300 4");
        x.sheet(1, 2, 3);
        Check.due("as many", x.write(1), 3);
        Check.same("all", elements(x, 1, 2, 3), "100 200 300");
        x.sheet(2, 2, 2);
        Check.due("more numbers", x.write(2), 2);
        Check.same("the first ones", elements(x, 2, 2, 2), "100 200");
        x.sheet(3, 2, 0);
        Check.due("no elements", x.write(3), 0);
        x.run(0, 0);
        Check.due("no numbers", x.write(0), 0);
        Check.same("all stay", elements(x, 0, 2, 4), "100 200 300 4");
        Check.same("the result stays", Check.results(x), "");
        Check.replan(x, "r0;50;");
        x.sheet(0, 2, 60);
        Check.due("a new plan is no run", x.write(0), 0);
        x.run(2, 40);
        Check.due("40", x.write(0), 40);
        Check.due("the 40th", x.get(0, 2, 39), 39);
        Check.due("the 41st", x.get(0, 2, 40), 0);
        Check.replan(x, "cr5;7;t1;/1;r0;1;");
        x.run(2, 9);
        Check.due("a failure in way 2", x.write(0), 0);
        x.run(1, 9);
        Check.due("a failure in way 1", x.write(0), 2);
        Check.same("the numbers until then", elements(x, 0, 2, 3), "5 6 2");

        Check.says(22, "Values that are stored are cast to the element type.");
        x = Check.planned("*128;r-1;3;");
        x.run(0, 9);
        x.sheet(0, 0, 4);
        Check.due("bytes", x.write(0), 4);
        Check.same("bytes", elements(x, 0, 0, 4), "-128 0 -128 0");
        Check.replan(x, "*9999;r3;5;");
        x.run(0, 9);
        x.sheet(1, 1, 2);
        Check.due("shorts", x.write(1), 2);
        Check.same("shorts", elements(x, 1, 1, 2), "29997 -25540");

        Check.says(22, "Returns how many were written; BAD if s is out of range; -11 if the sheet is lost.");
        for (int s : NO_SHEETS) Refused.plainly("write(" + s + ")", y -> y.write(s), StreamFuser.BAD);
        Refused.finding("write(3)", y -> y.write(3), -11, 1);
        Check.due("no finding", x.count(8), 0);
    }

    // ---- ERRORS

    private static void refusedCalls() {
        Check.says(23, "A call that returns an error changes nothing, except that a finding sets the result of "
            + "count(8) to its number, 1 to 5.");
        Refused.plainly("type(-1)", x -> x.type(-1), StreamFuser.BAD);
        Refused.plainly("type(256)", x -> x.type(256), StreamFuser.BAD);
        Refused.plainly("plan()", x -> x.plan(), -1003);
        Refused.plainly("node(9, 0)", x -> x.node(9, 0), NO_INT);
        Refused.plainly("node(0, 6)", x -> x.node(0, 6), NO_INT);
        Refused.plainly("text(40)", x -> x.text(40), StreamFuser.BAD);
        Refused.plainly("tidy(2)", x -> x.tidy(2), StreamFuser.BAD);
        Refused.plainly("rules(13)", x -> x.rules(13), StreamFuser.BAD);
        Refused.plainly("saves(41)", x -> x.saves(41), NO_INT);
        Refused.plainly("run(3, 1)", x -> x.run(3, 1), StreamFuser.BAD);
        Refused.plainly("run(0, 41)", x -> x.run(0, 41), StreamFuser.BAD);
        Refused.plainly("failure(2)", x -> x.failure(2), StreamFuser.BAD);
        Refused.plainly("told(4)", x -> x.told(4), StreamFuser.BAD);
        Refused.plainly("count(9)", x -> x.count(9), StreamFuser.BAD);
        Refused.finding("sheet(2, 0, -1)", x -> x.sheet(2, 0, -1), -15, 5);
        Refused.finding("lose(3)", x -> x.lose(3), -11, 1);

        Check.says(23, "Methods that return a long report BAD as Long.MIN_VALUE + 2, and NOT as Long.MIN_VALUE + 3.");
        Refused.plainly("result(2)", x -> x.result(2), Long.MIN_VALUE + 2);
        Refused.plainly("fold(3)", x -> x.fold(3), Long.MIN_VALUE + 2);
        Refused.plainly("written(3, 0)", x -> x.written(3, 0), Long.MIN_VALUE + 2);
        Check.due("fold(1)", new StreamFuser().fold(1), Long.MIN_VALUE + 3);

        Check.says(23, "If several errors apply, the one that comes first in the description of the result is "
            + "returned");
        StreamFuser full = Check.typed("l".repeat(40));
        Check.due("type: BAD, then FULL", full.type(256), StreamFuser.BAD);
        Check.due("tidy: BAD, then NOT", new StreamFuser().tidy(2), StreamFuser.BAD);
        Check.due("run: BAD, then NOT", new StreamFuser().run(0, 41), StreamFuser.BAD);
        Check.due("fold: BAD, then NOT", new StreamFuser().fold(3), Long.MIN_VALUE + 2);
        Check.due("sheet: BAD, then size", new StreamFuser().sheet(4, 0, -1), StreamFuser.BAD);
        Check.due("lay: lost, then index", new StreamFuser().lay(0, 0, -1, 0), -11);
        Check.due("copy: lost, then index", new StreamFuser().copy(0, -1, 0, 0, 0), -11);

        Check.says(23, "BAD (-2): an argument is out of range, or names something that does not exist. NOT (-3) and "
            + "FULL (-4): as told at the methods.");
        Check.due("NONE", StreamFuser.NONE, -1);
        Check.due("BAD", StreamFuser.BAD, -2);
        Check.due("NOT", StreamFuser.NOT, -3);
        Check.due("FULL", StreamFuser.FULL, -4);
    }

    public static void main(String[] args) {
        sheets();
        sheetErrors();
        loses();
        stores();
        storeErrors();
        reads();
        copies();
        copyErrors();
        copyBounds();
        writes();
        refusedCalls();
        Check.end("EdgesOfSheetsTest");
    }
}
