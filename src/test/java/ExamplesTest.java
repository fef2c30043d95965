/** The four runs under "Examples" in the document. */
public final class ExamplesTest {
    private static StreamFuser x;

    private static void types(String bytes, int first) {
        for (int i = 0; i < bytes.length(); i++) {
            Check.due("type(" + (int) bytes.charAt(i) + ")", x.type(bytes.charAt(i)), first + i);
        }
    }

    private static void endlessByAskingAndBySteps() {
        x = new StreamFuser();
        types("t2;+1;i5;0;", 1);
        Check.due("1: plan()", x.plan(), 3);
        Check.due("1: run(0, 9)", x.run(0, 9), 2);
        Check.due("1: told(1)", x.told(1), 7);
        Check.due("1: run(1, 9)", x.run(1, 9), 2);
        Check.due("1: told(1)", x.told(1), 3);
    }

    private static void openedAnew() {
        x = new StreamFuser();
        types("xur0;4;", 1);
        Check.due("2: plan()", x.plan(), 3);
        Check.due("2: run(0, 40)", x.run(0, 40), 6);
        Check.due("2: told(0)", x.told(0), 10);
        Check.due("2: told(1)", x.told(1), 22);
        Check.due("2: run(2, 40)", x.run(2, 40), 6);
        Check.due("2: told(1)", x.told(1), 6);
        Check.due("2: told(2)", x.told(2), 16);
        Check.due("2: node(2, 4)", x.node(2, 4), 1);
        Check.due("2: count(7)", x.count(7), 1);
    }

    private static void noPipeAndOne() {
        x = new StreamFuser();
        types("/9;v", 1);
        Check.due("3: fault()", x.fault(), 3);
        Check.due("3: plan()", x.plan(), -1003);
        Check.due("3: wipe()", x.wipe(), 4);
        types("/9;r0;2;", 1);
        Check.due("3: plan()", x.plan(), 2);
    }

    private static void lostSheet() {
        x = new StreamFuser();
        types("d1;s0", 1);
        Check.due("4: plan()", x.plan(), 2);
        Check.due("4: run(0, 3)", x.run(0, 3), 0);
        Check.due("4: failure(0)", x.failure(0), 2);
        Check.due("4: sheet(0, 0, 2)", x.sheet(0, 0, 2), 2);
        Check.due("4: run(1, 3)", x.run(1, 3), 1);
        Check.due("4: told(1)", x.told(1), 3);
        Check.due("4: run(2, 0)", x.run(2, 0), 0);
        Check.due("4: tidy(0)", x.tidy(0), 0);
        Check.due("4: node(1, 5)", x.node(1, 5), 0);
        Check.due("4: get(0, 1, 0)", x.get(0, 1, 0), -2147483648);
        Check.due("4: count(8)", x.count(8), 3);
    }

    public static void main(String[] args) {
        endlessByAskingAndBySteps();
        openedAnew();
        noPipeAndOne();
        lostSheet();
        Check.end("ExamplesTest");
    }
}
