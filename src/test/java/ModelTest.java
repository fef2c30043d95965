/** Long runs of calls, the same ones to StreamFuser and to the Model: every answer must be the same. */
public final class ModelTest {
    private static Pipes pipes = new Pipes(20261119L);

    private static int below(int n) {
        return pipes.below(n);
    }

    private int session;
    private int call;
    private String planned = "";
    private final StreamFuser x = new StreamFuser();
    private final Model y = new Model();

    private void due(String name, long got, long want) {
        call++;
        Check.due("session " + session + ", call " + call + ", " + name + " of " + planned, got, want);
    }

    private void type(String text) {
        if (call + text.length() + 2 > 512) return;
        due("wipe", x.wipe(), y.wipe());
        for (int i = 0; i < text.length(); i++) {
            due("type", x.type(text.charAt(i)), y.type(text.charAt(i)));
        }
        planned = text;
        due("plan", x.plan(), y.plan());
    }

    private void ask() {
        int k = below(42) - 1;
        int what = below(8) - 1;
        switch (below(12)) {
            case 0: due("fault", x.fault(), y.fault()); break;
            case 1: due("node", x.node(k, what), y.node(k, what)); break;
            case 2: due("text", x.text(k), y.text(k)); break;
            case 3: due("rules", x.rules(k % 15), y.rules(k % 15)); break;
            case 4: due("saves", x.saves(k), y.saves(k)); break;
            case 5: due("result", x.result(k), y.result(k)); break;
            case 6: due("fold", x.fold(what), y.fold(what)); break;
            case 7: due("failure", x.failure(what), y.failure(what)); break;
            case 8: due("told", x.told(what), y.told(what)); break;
            case 9: due("written", x.written(k, what), y.written(k, what)); break;
            case 10: due("count", x.count(what + 2), y.count(what + 2)); break;
            default: due("digest", x.digest(), y.digest()); break;
        }
    }

    private void doSheet() {
        int s = below(20) == 0 ? below(7) - 2 : below(4);
        int t = below(20) == 0 ? below(7) - 2 : below(4);
        int form = below(20) == 0 ? below(6) - 2 : below(3);
        int n = below(10) == 0 ? below(80) - 10 : below(12);
        int i = below(20) == 0 ? Integer.MAX_VALUE - below(2) : below(13) - 1;
        int j = below(13) - 1;
        int v = below(4) == 0 ? pipes.any() : below(20) - 6;
        switch (below(9)) {
            case 0: case 1: due("sheet", x.sheet(s, form, n), y.sheet(s, form, n)); break;
            case 2: if (below(3) == 0) due("lose", x.lose(s), y.lose(s)); break;
            case 3: case 4: due("lay", x.lay(s, form, i, v), y.lay(s, form, i, v)); break;
            case 5: due("get", x.get(s, form, i), y.get(s, form, i)); break;
            case 6: case 7: due("copy", x.copy(s, i, t, j, n), y.copy(s, i, t, j, n)); break;
            default: due("write", x.write(s), y.write(s)); break;
        }
        due("finding", x.count(8), y.count(8));
    }

    private void runs() {
        int limit = below(30) == 0 ? below(60) - 10 : below(4) == 0 ? 40 : below(12);
        int way = below(30) == 0 ? below(6) - 2 : below(3);
        due("run " + way + " " + limit, x.run(way, limit), y.run(way, limit));
        due("digest", x.digest(), y.digest());
    }

    private void play() {
        for (int turn = 0; turn < 600 && call < 508; turn++) {
            switch (below(10)) {
                case 0: case 1: type(pipes.text()); break;
                case 2: case 3: case 4: runs(); break;
                case 5: due("tidy", x.tidy(turn % 2), y.tidy(turn % 2)); break;
                case 6: case 7: doSheet(); break;
                default: ask(); break;
            }
        }
        due("digest", x.digest(), y.digest());
    }

    public static void main(String[] args) {
        int sessions = args.length > 0 ? Integer.parseInt(args[0]) : 150;
        if (args.length > 1) pipes = new Pipes(Long.parseLong(args[1]));
        for (int i = 0; i < sessions; i++) {
            ModelTest test = new ModelTest();
            test.session = i;
            test.play();
        }
        Check.end("ModelTest");
    }
}
