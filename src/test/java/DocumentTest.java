import java.io.IOException;
import java.lang.reflect.Constructor;
import java.lang.reflect.Field;
import java.lang.reflect.Method;
import java.lang.reflect.Modifier;
import java.nio.file.Files;
import java.nio.file.Path;
import java.util.TreeSet;
import java.util.regex.Matcher;
import java.util.regex.Pattern;

/**
 * What stands in the document ahead of the promises and around them, as it is printed there: the face, the signature
 * of each promise, the Examples, the constants, and that an object answers 512 calls. Run it in the project's folder.
 */
public final class DocumentTest {
    private static final Path DOCUMENT = Path.of("../shared/DOC.md");
    private static final Path PROGRAM = Path.of("src/main/java/StreamFuser.java");

    private static String between(String text, String begin, String end) {
        int from = text.indexOf(begin);
        int to = from < 0 ? -1 : text.indexOf(end, from + begin.length());
        Check.that("the document has " + begin, to > from);
        return to <= from ? "" : text.substring(from + begin.length(), to);
    }

    // ---- the public face

    private static String withoutNames(String signature) {
        return signature.replaceAll("int \\w+([,)])", "int$1");
    }

    private static String parameters(Class<?>[] types) {
        StringBuilder out = new StringBuilder("(");
        for (int i = 0; i < types.length; i++) out.append(i == 0 ? "" : ", ").append(types[i].getName());
        return out.append(");").toString();
    }

    private static boolean isPrivate(int modifiers) {
        return Modifier.isPrivate(modifiers);
    }

    /** All members of the class that are not private, as the document prints them, without the parameters' names. */
    private static TreeSet<String> members() throws IllegalAccessException {
        TreeSet<String> members = new TreeSet<>();
        for (Field f : StreamFuser.class.getDeclaredFields()) {
            if (isPrivate(f.getModifiers())) continue;
            String value = Modifier.isStatic(f.getModifiers()) ? " = " + f.get(null) : "";
            members.add(Modifier.toString(f.getModifiers()) + " " + f.getType().getName() + " " + f.getName() + value);
        }
        for (Constructor<?> c : StreamFuser.class.getDeclaredConstructors()) {
            if (isPrivate(c.getModifiers())) continue;
            members.add(Modifier.toString(c.getModifiers()) + " StreamFuser" + parameters(c.getParameterTypes()));
        }
        for (Method m : StreamFuser.class.getDeclaredMethods()) {
            if (isPrivate(m.getModifiers())) continue;
            members.add(Modifier.toString(m.getModifiers()) + " " + m.getReturnType().getName() + " " + m.getName()
                + parameters(m.getParameterTypes()));
            Check.due("what " + m.getName() + " throws", m.getExceptionTypes().length, 0);
        }
        for (Class<?> c : StreamFuser.class.getDeclaredClasses()) {
            if (!isPrivate(c.getModifiers())) members.add("class " + c.getName());
        }
        return members;
    }

    private static TreeSet<String> printedMembers(String face) {
        TreeSet<String> members = new TreeSet<>();
        for (String line : face.split("\n")) {
            String bare = line.trim();
            Matcher constants = Pattern.compile("(public static final int) (.*);").matcher(bare);
            if (constants.matches()) {
                for (String one : constants.group(2).split(", ")) members.add(constants.group(1) + " " + one);
            } else if (bare.startsWith("public ") && bare.endsWith(";")) {
                members.add(withoutNames(bare));
            }
        }
        return members;
    }

    private static void face(String document) throws IOException, IllegalAccessException {
        String face = between(document, "## The public face\n\n```java\n", "```");
        Check.same("the members", members().toString(), printedMembers(face).toString());
        Check.due("how many", members().size(), 4 + 1 + 23);
        Check.same("the class", Modifier.toString(StreamFuser.class.getModifiers()), "public final");
        Check.that("no class above it", StreamFuser.class.getSuperclass() == Object.class);
        Check.due("interfaces", StreamFuser.class.getInterfaces().length, 0);
        Check.that("no package", StreamFuser.class.getPackageName().isEmpty());
        String source = Files.readString(PROGRAM);
        for (String line : face.split("\n")) {
            if (line.isBlank() || line.equals("}")) continue;
            String due = line.endsWith(");") ? line.substring(0, line.length() - 1) + " {" : line;
            Check.that("the program has the line " + due, source.contains("\n" + due + "\n"));
        }
    }

    private static void signatures(String document) {
        String face = between(document, "## The public face\n\n```java\n", "```");
        Matcher m = Pattern.compile("\n## Promise (\\d+): .*\n\n`(.*)`\n").matcher(document);
        int promises = 0;
        while (m.find()) {
            promises++;
            Check.due("promises in their order", Integer.parseInt(m.group(1)), promises);
            Check.that("the face has " + m.group(2), face.contains("    public " + m.group(2) + ";\n"));
        }
        Check.due("promises", promises, 24);
    }

    // ---- Examples

    private static void examples(String document) {
        String text = between(document, "\nExamples: ", "\nThe constants:");
        Matcher example = Pattern.compile("(?m)^(\\d)\\. [^:]*: (.*)\\.$").matcher(text);
        int examples = 0;
        while (example.find()) {
            examples++;
            StreamFuser x = new StreamFuser();
            for (String one : example.group(2).split("; ")) {
                String[] sides = one.split(" = ");
                Check.due("example " + example.group(1) + ", " + sides[0], Calls.answer(x, sides[0]),
                    Long.parseLong(sides[1]));
            }
        }
        Check.due("examples", examples, 4);
    }

    // ---- calls of one object

    private static void constants() {
        Check.says(1, "`NONE = -1, BAD = -2, NOT = -3, FULL = -4`");
        Check.due("NONE", StreamFuser.NONE, -1);
        Check.due("BAD", StreamFuser.BAD, -2);
        Check.due("NOT", StreamFuser.NOT, -3);
        Check.due("FULL", StreamFuser.FULL, -4);
        Check.says(4, "NONE: there is no value");
        Check.due("fault() of a pipe", Check.typed("s0").fault(), -1);
        Check.says(7, "as an argument, as told at the methods");
        Check.due("text(NONE)", Check.planned("r0;1;").text(-1), 5);
        Check.says(2, "The others are error codes.");
        StreamFuser x = Check.typed("l0".repeat(20));
        Check.due("BAD", x.type(-1), -2);
        Check.due("NOT", x.tidy(0), -3);
        Check.due("FULL", x.type(0), -4);
    }

    private static void manyCalls() {
        Check.says(1, "An object is used for at most 512 calls after it has been made");
        String text = "xt2;ul7cs1r3;7;";
        StreamFuser x = Check.planned(text);
        // A new object's text was wiped ahead of it.
        int calls = text.length() + 2;
        for (int turn = 0; calls < 509; turn++, calls += 3) {
            Check.due("sheet after " + calls + " calls", x.sheet(1, 2, 56), 56);
            Check.due("lay after " + calls + " calls", x.lay(1, 2, 55, 2), 1);
            Check.due("run after " + calls + " calls", x.run(turn % 3, 40), 10);
        }
        for (; calls < 511; calls++) Check.due("saves after " + calls + " calls", x.saves(40), 0);
        Check.due("the 512th", x.result(9), 1);
    }

    public static void main(String[] args) throws IOException, IllegalAccessException {
        constants();
        manyCalls();
        if (Files.isReadable(DOCUMENT)) {
            String document = Files.readString(DOCUMENT);
            face(document);
            signatures(document);
            examples(document);
        } else {
            System.out.println("DocumentTest: there is no " + DOCUMENT);
        }
        Check.end("DocumentTest");
    }
}
