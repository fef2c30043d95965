import java.util.ArrayList;
import java.util.List;

/**
 * What must agree, whatever the pipe: the three ways with one another, and a plan that is simplified with what it was
 * before. This rests on no other telling of what a single node does.
 */
public final class AgreementTest {
    private static final int[] LIMITS = {0, 1, 2, 5, 39, 40};

    private static int failed;
    private static int simplified;

    /** A new object with this plan, whose sheets 0 to 2 are not lost. */
    private static StreamFuser object(String pipe) {
        StreamFuser x = Check.planned(pipe);
        for (int s = 0; s < 3; s++) {
            x.sheet(s, s, 3 * s);
            for (int i = 0; i < 3 * s; i++) x.lay(s, s, i, 7 * i - 5);
        }
        return x;
    }

    private static String all(StreamFuser x) {
        return Check.results(x) + ", failure " + x.failure(0) + " in " + x.failure(1) + ", drawn " + x.told(0)
            + ", pairs " + x.told(3) + ": " + Check.pairs(x);
    }

    private static void askingAndStepping(String pipe) {
        StreamFuser x = object(pipe);
        for (int limit : LIMITS) {
            x.run(0, limit);
            String asked = all(x);
            x.run(1, limit);
            Check.same("run(1, " + limit + ") of " + pipe, all(x), asked);
        }
    }

    /** Arrays are made of more numbers than are asked for, so that they may fail where the other ways don't. */
    private static void arrays(String pipe) {
        StreamFuser x = object(pipe);
        if (x.run(2, 40) == StreamFuser.NOT || x.failure(0) != 0) return;
        String made = Check.results(x);
        int drawn = x.told(0);
        int pairs = x.told(3);
        for (int way = 0; way < 2; way++) {
            x.run(way, 40);
            Check.same("run(" + way + ", 40) of " + pipe, Check.results(x), made);
            Check.due("run(" + way + ", 40) of " + pipe + ", failure", x.failure(0), 0);
            Check.that("run(" + way + ", 40) of " + pipe + ", drawn", x.told(0) <= drawn);
            Check.that("run(" + way + ", 40) of " + pipe + ", pairs", x.told(3) <= pairs);
        }
    }

    private static void simplifying(String pipe, int mode) {
        StreamFuser x = object(pipe);
        x.run(0, 40);
        if (x.failure(0) != 0) {
            failed++;
            return;
        }
        String before = Check.results(x) + ", pairs " + Check.pairs(x);
        int drawn = x.told(0);
        int saved = x.saves(40);
        if (x.tidy(mode) > 0) simplified++;
        x.run(0, 40);
        Check.same("simplified, " + pipe, Check.results(x) + ", pairs " + Check.pairs(x), before);
        Check.due("simplified, " + pipe + ", failure", x.failure(0), 0);
        Check.due("drawn and saved, " + pipe, x.told(0) + saved, drawn);
        Check.that("saved, " + pipe, saved >= 0);
        Check.due("saves(40) of what is simple, " + pipe, x.saves(40), 0);
        for (int how = 0; how < 2; how++) Check.due("tidy(" + how + ") again, " + pipe, x.tidy(how), 0);
    }

    public static void main(String[] args) {
        int many = args.length > 0 ? Integer.parseInt(args[0]) : 2000;
        Pipes pipes = new Pipes(args.length > 1 ? Long.parseLong(args[1]) : 7);
        List<String> made = new ArrayList<>();
        while (made.size() < many) {
            String pipe = pipes.pipe();
            if (pipe.length() <= 40) made.add(pipe);
        }
        Check.says(11, "pipelines of producers and transformers of numbers, which are given as texts, can be executed "
            + "in three ways that must agree: by pulling (each node asks the one before it), by steps of the whole "
            + "that give, skip or end, and with complete intermediate arrays.");
        for (String pipe : made) arrays(pipe);
        Check.says(15, "The class records how many numbers were produced, how often nodes were asked or stepped, what "
            + "was written down, and failures with their nesting depth.");
        for (String pipe : made) askingAndStepping(pipe);
        Check.says(10, "It simplifies pipelines by rewriting rules, from the front or from the back, and tells how "
            + "much work this saves.");
        for (int i = 0; i < many; i++) simplifying(made.get(i), i % 2);
        Check.that(failed + " that failed", failed > many / 20);
        Check.that(simplified + " that were simplified", simplified > many / 20);
        Check.end("AgreementTest");
    }
}
