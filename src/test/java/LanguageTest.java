import java.io.IOException;
import java.lang.reflect.Field;
import java.lang.reflect.Method;
import java.lang.reflect.Modifier;
import java.nio.file.Files;
import java.nio.file.Path;
import java.util.ArrayList;
import java.util.List;
import java.util.TreeSet;
import java.util.regex.Matcher;
import java.util.regex.Pattern;

/** What of LANGUAGE.md can be seen in the source and in the classes. Run it in the project's folder. */
public final class LanguageTest {
    private static final String[] FACE = {
        "int type(int)", "int wipe()", "int fault()", "int plan()", "int node(int,int)", "int text(int)",
        "int tidy(int)", "int rules(int)", "int saves(int)", "int run(int,int)", "long result(int)",
        "long fold(int)", "int failure(int)", "int told(int)", "long written(int,int)", "int sheet(int,int,int)",
        "int lose(int)", "int lay(int,int,int,int)", "int get(int,int,int)", "int copy(int,int,int,int,int)",
        "int write(int)", "int count(int)", "long digest()"
    };

    private static String signature(Method m) {
        List<String> types = new ArrayList<>();
        for (Class<?> type : m.getParameterTypes()) types.add(type.getName());
        return m.getReturnType().getName() + " " + m.getName() + "(" + String.join(",", types) + ")";
    }

    private static void face() {
        TreeSet<String> due = new TreeSet<>(List.of(FACE));
        TreeSet<String> names = new TreeSet<>();
        for (String one : FACE) names.add(one.substring(one.indexOf(' ') + 1, one.indexOf('(')));
        TreeSet<String> found = new TreeSet<>();
        for (Method m : StreamFuser.class.getDeclaredMethods()) {
            boolean open = Modifier.isPublic(m.getModifiers());
            if (open) found.add(signature(m));
            Check.that("private or of the face: " + m, open || Modifier.isPrivate(m.getModifiers()));
            if (!open) Check.that("a name of its own: " + m, !names.contains(m.getName()));
        }
        Check.same("the methods of the face", found.toString(), due.toString());
        for (Field f : StreamFuser.class.getDeclaredFields()) {
            boolean constant = List.of("NONE", "BAD", "NOT", "FULL").contains(f.getName());
            Check.that("private or of the face: " + f, constant == Modifier.isPublic(f.getModifiers()));
            Check.that("private or of the face: " + f, constant || Modifier.isPrivate(f.getModifiers()));
        }
        Check.that("final", Modifier.isFinal(StreamFuser.class.getModifiers()));
        Check.due("constructors", StreamFuser.class.getDeclaredConstructors().length, 1);
    }

    private static void classesInside() {
        TreeSet<String> names = new TreeSet<>();
        for (String one : FACE) names.add(one.substring(one.indexOf(' ') + 1, one.indexOf('(')));
        Class<?>[] inside = StreamFuser.class.getDeclaredClasses();
        Check.that("some twelve classes", inside.length < 12);
        for (Class<?> c : inside) {
            Check.that("static: " + c, Modifier.isStatic(c.getModifiers()));
            Check.that("private: " + c, Modifier.isPrivate(c.getModifiers()));
            Check.that("some twenty fields: " + c, c.getDeclaredFields().length <= 20);
            for (Field f : c.getDeclaredFields()) {
                Check.that("no static state: " + f, !Modifier.isStatic(f.getModifiers())
                    || Modifier.isFinal(f.getModifiers()));
            }
            for (Method m : c.getDeclaredMethods()) {
                Check.that("a name of its own: " + m, !names.contains(m.getName()));
                Check.that("seven parameters: " + m, m.getParameterCount() <= 7);
            }
        }
    }

    private static final String[] FORBIDDEN = {
        "\\bimport\\b", "\\bpackage\\b", "\\bthrow\\b", "\\bthrows\\b", "\\btry\\b", "\\bcatch\\b", "\\bfinally\\b",
        "\\bsynchronized\\b", "\\bassert\\b", "->", "::", "\\w+Exact\\b", "\\bSystem\\.(?!arraycopy\\b)",
        "\\bequals\\b", "\\bhashCode\\b", "\\btoString\\b", "@", "\"", "\\bjava\\.", "\\bThread\\b", "\\bdouble\\b",
        "\\bfloat\\b", "\\bObject\\b", "\\bvar\\b"
    };

    private static void words(String source) {
        for (String word : FORBIDDEN) {
            Matcher m = Pattern.compile(word).matcher(source);
            Check.that("no " + word, !m.find());
        }
        for (int i = 0; i < source.length(); i++) {
            char c = source.charAt(i);
            if (c > 126) Check.that("a sign of 1 to 127: " + c, false);
        }
    }

    /** All is made in constructors, so that a call makes nothing however often it comes. */
    private static void nothingMadeByCalls(String source) {
        for (String line : source.split("\n")) {
            if (!line.matches(".*\\bnew\\b.*")) continue;
            boolean field = line.matches(" +(private )?(static )?final [A-Za-z]+\\[\\] \\w+ = new \\w+\\[[A-Z_ *+0-9]+\\];");
            boolean whole = line.matches("        \\w+ = new [A-Z]\\w+\\([a-z, A-Z]*\\);");
            Check.that("made in a constructor: " + line, field || whole);
        }
    }

    private static void shortMethods(String source) {
        String[] lines = source.split("\n");
        int begun = 0;
        for (int i = 0; i < lines.length; i++) {
            if (lines[i].matches(" {4}(    )?[a-zA-Z\\[\\] ]+\\(.*\\) \\{")) begun = i;
            if (lines[i].matches(" {4}(    )?\\}")) Check.that("sixty lines to line " + (i + 1), i - begun < 60);
            Check.that("a line of 120 signs: " + (i + 1), lines[i].length() <= 120);
        }
    }

    public static void main(String[] args) throws IOException {
        String source = Files.readString(Path.of("src/main/java/StreamFuser.java"));
        String bare = source.replaceAll("(?s)/\\*.*?\\*/", "").replaceAll("//[^\n]*", "");
        face();
        classesInside();
        words(bare);
        nothingMadeByCalls(bare);
        shortMethods(bare);
        Check.end("LanguageTest");
    }
}
