/** Every method with arguments far out of range, in several states, against the Model; no call may throw. */
public final class ExtremesTest {
    private static final int[] MANY = {
        Integer.MIN_VALUE, Integer.MIN_VALUE + 1, -16, -5, -4, -3, -2, -1, 0, 1, 2, 3, 4, 5, 7, 8, 9, 12, 13,
        39, 40, 41, 59, 60, 61, 255, 256, Integer.MAX_VALUE - 1, Integer.MAX_VALUE
    };
    private static final int[] FEW = {Integer.MIN_VALUE, -1, 0, 1, 3, 4, Integer.MAX_VALUE};

    private static final String[] PLANS = {
        "", "t9", "l3?>2;r0;50;", "xud1;/9;l2s1", "d3;t9;i-9999;9999;", "s3", "ccr0;60;r0;1;r5;4;"
    };

    // A new one of each after 400 calls, for no more than 512 are promised.
    private static StreamFuser x;
    private static Model y;
    private static String state;
    private static int calls;

    private static void begin(String pipe, int way) {
        x = new StreamFuser();
        y = new Model();
        state = pipe + " in way " + way;
        for (int i = 0; i < pipe.length(); i++) due("type", x.type(pipe.charAt(i)), y.type(pipe.charAt(i)));
        due("plan", x.plan(), y.plan());
        due("sheet", x.sheet(1, 1, 5), y.sheet(1, 1, 5));
        due("sheet", x.sheet(0, 1, 60), y.sheet(0, 1, 60));
        due("lay", x.lay(1, 1, 0, 77777), y.lay(1, 1, 0, 77777));
        due("run", x.run(way, 40), y.run(way, 40));
        calls = 0;
    }

    private static void due(String call, long got, long want) {
        calls++;
        Check.due(call + ", " + state, got, want);
    }

    private static void one(int a) {
        String of = "(" + a + ")";
        due("text" + of, x.text(a), y.text(a));
        due("rules" + of, x.rules(a), y.rules(a));
        due("saves" + of, x.saves(a), y.saves(a));
        due("result" + of, x.result(a), y.result(a));
        due("fold" + of, x.fold(a), y.fold(a));
        due("failure" + of, x.failure(a), y.failure(a));
        due("told" + of, x.told(a), y.told(a));
        due("count" + of, x.count(a), y.count(a));
        due("write" + of, x.write(a), y.write(a));
        due("tidy" + of, x.tidy(a), y.tidy(a));
        due("lose" + of, x.lose(a), y.lose(a));
        due("type" + of, x.type(a), y.type(a));
        due("fault", x.fault(), y.fault());
    }

    private static void two(int a, int b) {
        String of = "(" + a + ", " + b + ")";
        due("node" + of, x.node(a, b), y.node(a, b));
        due("written" + of, x.written(a, b), y.written(a, b));
        due("run" + of, x.run(a, b), y.run(a, b));
        due("lay" + of, x.lay(1, 1, a, b), y.lay(1, 1, a, b));
    }

    private static void three(int a, int b, int c) {
        String of = "(" + a + ", " + b + ", " + c + ")";
        due("sheet" + of, x.sheet(a, b, c), y.sheet(a, b, c));
        due("get" + of, x.get(a, b, c), y.get(a, b, c));
        due("lay" + of, x.lay(a, b, c, a), y.lay(a, b, c, a));
        due("copy" + of, x.copy(1, a, 0, b, c), y.copy(1, a, 0, b, c));
        due("copy of" + of, x.copy(a, b, b, a, c), y.copy(a, b, b, a, c));
        due("finding", x.count(8), y.count(8));
    }

    private static void all(String pipe, int way) {
        for (int a : MANY) {
            begin(pipe, way);
            one(a);
            due("digest", x.digest(), y.digest());
            begin(pipe, way);
            for (int b : MANY) two(a, b);
            due("digest", x.digest(), y.digest());
        }
        begin(pipe, way);
        for (int a : FEW) {
            for (int b : FEW) {
                for (int c : FEW) {
                    if (calls > 400) begin(pipe, way);
                    three(a, b, c);
                }
            }
        }
    }

    public static void main(String[] args) {
        for (String pipe : PLANS) {
            for (int way = 0; way < 3; way++) all(pipe, way);
        }
        Check.end("ExtremesTest");
    }
}
