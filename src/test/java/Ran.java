/** Runs of a pipe on a new object with the sheets 1 (bytes 4, -3, 0), 2 (no elements), and 0 and 3 lost. */
final class Ran {
    private Ran() {}

    static StreamFuser of(String pipe, int way, int limit) {
        StreamFuser x = Check.planned(pipe);
        x.sheet(1, 0, 3);
        x.lay(1, 0, 0, 4);
        x.lay(1, 0, 1, -3);
        x.sheet(2, 2, 0);
        int answer = x.run(way, limit);
        Check.due("run of " + pipe, answer, x.count(2));
        return x;
    }

    private static String name(String pipe, int way, int limit) {
        return "run(" + way + ", " + limit + ") of " + pipe;
    }

    /** The result, and with figures: failure, depth, drawn, work, elements, pairs. */
    static void due(String pipe, int way, int limit, String results, String figures) {
        StreamFuser x = of(pipe, way, limit);
        Check.same(name(pipe, way, limit), Check.results(x), results);
        Check.same(name(pipe, way, limit) + ", figures", Check.figures(x), figures);
    }

    /** How many numbers the result has, and the figures. */
    static void size(String pipe, int way, int limit, int size, String figures) {
        StreamFuser x = of(pipe, way, limit);
        Check.due(name(pipe, way, limit), x.count(2), size);
        Check.same(name(pipe, way, limit) + ", figures", Check.figures(x), figures);
    }

    /** All three ways with limit 40 and the same result. */
    static void all(String pipe, String results, String asked, String stepped, String made) {
        due(pipe, 0, 40, results, asked);
        due(pipe, 1, 40, results, stepped);
        due(pipe, 2, 40, results, made);
    }

    /** The result alone, in all three ways with limit 40. */
    static void gives(String pipe, String results) {
        for (int way = 0; way < 3; way++) Check.same(name(pipe, way, 40), Check.results(of(pipe, way, 40)), results);
    }

    /** The failure and its depth, in all three ways with limit 40. */
    static void fails(String pipe, int number, int depth) {
        for (int way = 0; way < 3; way++) {
            StreamFuser x = of(pipe, way, 40);
            Check.due(name(pipe, way, 40) + ", failure", x.failure(0), number);
            Check.due(name(pipe, way, 40) + ", depth", x.failure(1), depth);
        }
    }
}
