/** What the tests share: one count of wrong answers, and short ways to write and to run a pipe. */
final class Check {
    static final long BAD_LONG = Long.MIN_VALUE + 2;
    static final long NOT_LONG = Long.MIN_VALUE + 3;

    private static int wrong;
    private static int checked;
    private static String sentence = "";
    private static int checkedBefore;

    private Check() {}

    /** What follows is due by these words of the promise with this number, or of a part that it rests on. */
    static void says(int promise, String words) {
        endSentence();
        sentence = "promise " + promise + ", \"" + words + "\": ";
        checkedBefore = checked;
    }

    /** A sentence without an answer that tests it would only look tested. */
    private static void endSentence() {
        if (sentence.isEmpty() || checked > checkedBefore) return;
        wrong++;
        System.out.println(sentence + "nothing was tested");
    }

    static void due(String what, long got, long want) {
        checked++;
        if (got == want) return;
        wrong++;
        System.out.println(sentence + what + ": answered " + got + ", due is " + want);
    }

    static void that(String what, boolean holds) {
        due(what, holds ? 1 : 0, 1);
    }

    static void end(String test) {
        endSentence();
        System.out.println(test + ": " + checked + " answers, " + wrong + " wrong");
        if (wrong != 0) System.exit(1);
    }

    /** An object whose text is this one. */
    static StreamFuser typed(String text) {
        StreamFuser x = new StreamFuser();
        retype(x, text);
        return x;
    }

    static void retype(StreamFuser x, String text) {
        x.wipe();
        for (int i = 0; i < text.length(); i++) x.type(text.charAt(i));
    }

    /** An object whose plan is this pipe. */
    static StreamFuser planned(String pipe) {
        StreamFuser x = new StreamFuser();
        replan(x, pipe);
        return x;
    }

    static void replan(StreamFuser x, String pipe) {
        retype(x, pipe);
        that("plan of " + pipe, x.plan() > 0);
    }

    static String planText(StreamFuser x) {
        StringBuilder out = new StringBuilder();
        for (int i = 0; i < x.text(StreamFuser.NONE); i++) out.append((char) x.text(i));
        return out.toString();
    }

    static String results(StreamFuser x) {
        StringBuilder out = new StringBuilder();
        for (int i = 0; x.result(i) != BAD_LONG; i++) out.append(i == 0 ? "" : " ").append(x.result(i));
        return out.toString();
    }

    static String pairs(StreamFuser x) {
        StringBuilder out = new StringBuilder();
        for (int i = 0; x.written(i, 0) != BAD_LONG; i++) {
            out.append(i == 0 ? "" : " ").append(x.written(i, 0)).append(':').append(x.written(i, 1));
        }
        return out.toString();
    }

    static void same(String what, String got, String want) {
        checked++;
        if (got.equals(want)) return;
        wrong++;
        System.out.println(sentence + what + ": answered \"" + got + "\", due is \"" + want + "\"");
    }

    /** The failure, its depth, and the four figures of told(), in one line. */
    static String figures(StreamFuser x) {
        StringBuilder out = new StringBuilder();
        out.append(x.failure(0)).append(' ').append(x.failure(1));
        for (int what = 0; what <= 3; what++) out.append(' ').append(x.told(what));
        return out.toString();
    }
}
