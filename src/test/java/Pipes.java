/** Pipes, and texts that nearly are, made from a row of numbers that is the same each time. */
final class Pipes {
    private static final String BYTES = "rrisuvcxzz+*/%lk?wtd<>=--0123456789;;;;;";

    private long state;

    Pipes(long start) {
        state = start;
    }

    int below(int n) {
        state = state * 6364136223846793005L + 1442695040888963407L;
        return (int) ((state >>> 33) % n);
    }

    /** Some int, of those that were not yet used for a choice. */
    int any() {
        return (int) (state >>> 20);
    }

    private String pick(String of) {
        int i = below(of.length());
        return of.substring(i, i + 1);
    }

    private String number(int most, boolean negative) {
        int n = below(6) == 0 ? below(most + 1) : below(Math.min(most + 1, 13));
        return (negative && n > 0 && below(3) == 0 ? "-" : "") + n + ";";
    }

    private String whole() {
        return (below(6) == 0 ? 1 + below(9999) : 1 + below(4)) + ";";
    }

    private String producer(boolean opened) {
        if (opened && below(3) > 0) return pick("uv");
        switch (below(6)) {
            case 0: return "s" + below(4);
            case 1: return "i" + number(9999, true) + number(9999, true);
            case 2: return "r0;" + below(70) + ";";
            case 3: return "r" + number(99, true) + number(99, true);
            default: return "r0;" + below(9) + ";";
        }
    }

    private String nested(int depth, boolean opened) {
        if (depth == 0) return producer(opened);
        String p = nested(depth - 1, opened);
        switch (below(15)) {
            case 0: return pick("+*") + number(9999, true) + p;
            case 1: return "/" + number(9999, true) + p;
            case 2: return "%" + whole() + p;
            case 3: return "l" + below(10) + p;
            case 4: return "?" + pick("<>=") + number(99, true) + p;
            case 5: return "k" + whole() + p;
            case 6: return "w" + pick("<>=") + number(99, true) + p;
            case 7: case 8: return "t" + number(99, false) + p;
            case 9: case 10: return "d" + number(99, false) + p;
            case 11: return "c" + p + nested(below(depth), opened);
            case 12: return "z" + pick("+*<") + p + nested(below(depth), opened);
            default: return "x" + nested(below(depth), true) + p;
        }
    }

    /** A pipe, nearly always one of at most 40 bytes. */
    String pipe() {
        String made = nested(below(8), false);
        for (int i = 0; i < 20 && made.length() > 40; i++) made = nested(below(8), false);
        return made;
    }

    /** A pipe, or one with a byte left out or put in, or with its end cut off. */
    String text() {
        String made = pipe();
        if (below(5) > 0) return made;
        int cut = below(made.length() + 1);
        String rest = below(2) == 0 || cut == made.length() ? "" : made.substring(cut + 1);
        return made.substring(0, cut) + (below(4) == 0 ? "" : pick(BYTES)) + rest;
    }
}
