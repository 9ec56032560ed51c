import java.io.IOException;
import java.lang.reflect.Constructor;
import java.lang.reflect.Field;
import java.lang.reflect.Method;
import java.lang.reflect.Modifier;
import java.nio.file.Files;
import java.nio.file.Path;
import java.util.Set;
import java.util.TreeSet;
import java.util.regex.Pattern;

/** The public face of the document, and those rules of LANGUAGE.md that can be seen in the text. */
public final class FaceAndRulesTest {
    private static final Due DUE = new Due("FaceAndRulesTest");
    private static final Path SOURCE = Path.of("src/main/java/LikeNets.java");
    private static final String[] FACE = {
        "int sheet(int,int,int)", "int cell(int,int,int)", "int lose(int)", "int net(int)",
        "int road(int,int,boolean)", "int load(int,int,int)", "boolean joined(int,int)", "int build(int,int,int)",
        "int way(int,int)", "int many(int)", "int clash(int)", "int table(int,int)", "int thirds(int,int,int,int)",
        "int tell(int)", "int put(int,int,int)", "int take()", "int can()", "int entry(int,int)", "int posts()",
        "int third(int,int,int)", "int root(int,int)", "long walks(int,int)", "long bound(int,int)",
        "int fold()", "int half()", "int twice()", "int power(int)", "int other()", "int lines()", "int keep()",
        "int back()", "int perfect(int)", "int heap(int,int)", "int kinds()", "int kind(int,int)",
    };
    /** The call ahead of which each heading stands. */
    private static final String[][] HEADINGS = {
        {"sheet", "sheets and roads"}, {"way", "ways"}, {"tell", "the told table"}, {"fold", "nets made of nets"},
        {"perfect", "heaps and kinds"},
    };
    private static final String[] CONSTANTS = {
        "NUMBER", "FULL", "MISSING", "SIZE", "STATE", "LAW", "SPENT", "NEVER",
    };
    private static final String[] NOT_IN_THE_TEXT = {
        "\\bthrow\\b", "\\bthrows\\b", "\\btry\\b", "\\bcatch\\b", "\\bsynchronized\\b", "\\bassert\\b", "->", "::",
        "\\bpackage\\b", "Exact\\(", "\\bSystem\\.(?!arraycopy)", "\\bprotected\\b", "\\bdouble\\b", "\\bfloat\\b",
        "\\bObject\\b", "\\bequals\\b", "\\bhashCode\\b", "\\btoString\\b", "\\bstatic \\{",
    };

    public static void main(String[] args) throws IOException, IllegalAccessException {
        methods();
        fields();
        nested();
        text();
        order();
        lengths();
        room();
        DUE.end();
    }

    private static String signature(Method method) {
        StringBuilder text = new StringBuilder(method.getReturnType() + " " + method.getName() + "(");
        for (Class<?> type : method.getParameterTypes()) {
            text.append(text.charAt(text.length() - 1) == '(' ? "" : ",").append(type);
        }
        return text.append(")").toString();
    }

    private static String name(String call) {
        return call.substring(call.indexOf(' ') + 1, call.indexOf('('));
    }

    private static Set<String> names() {
        Set<String> names = new TreeSet<>();
        for (String call : FACE) {
            names.add(name(call));
        }
        return names;
    }

    private static void methods() {
        Set<String> due = new TreeSet<>(Set.of(FACE));
        Set<String> names = names();
        for (Method method : LikeNets.class.getDeclaredMethods()) {
            boolean isPrivate = Modifier.isPrivate(method.getModifiers());
            boolean isFace = Modifier.isPublic(method.getModifiers()) && due.remove(signature(method));
            DUE.is("face or private: " + method, isPrivate || isFace, true);
            DUE.is("a private one has its own name: " + method, isPrivate && names.contains(method.getName()), false);
        }
        DUE.is("all of the face: " + due, due.size(), 0);
        DUE.is("one constructor", LikeNets.class.getDeclaredConstructors().length, 1);
        Constructor<?> made = LikeNets.class.getDeclaredConstructors()[0];
        DUE.is("a public one", Modifier.isPublic(made.getModifiers()) && made.getParameterCount() == 0, true);
        DUE.is("final", Modifier.isFinal(LikeNets.class.getModifiers()), true);
    }

    private static void fields() throws IllegalAccessException {
        for (Field field : LikeNets.class.getDeclaredFields()) {
            int at = java.util.Arrays.asList(CONSTANTS).indexOf(field.getName());
            if (at >= 0) {
                DUE.is("constant " + field.getName(), field.getInt(null), -1 - at);
                DUE.is("public " + field, Modifier.isPublic(field.getModifiers()), true);
            } else {
                DUE.is("private " + field, Modifier.isPrivate(field.getModifiers()), true);
            }
            DUE.is("static ones are final: " + field, !Modifier.isStatic(field.getModifiers())
                || Modifier.isFinal(field.getModifiers()), true);
        }
    }

    private static void nested() {
        Set<String> names = names();
        DUE.is("at most twelve classes", LikeNets.class.getDeclaredClasses().length <= 11, true);
        for (Class<?> inside : LikeNets.class.getDeclaredClasses()) {
            DUE.is("static " + inside, Modifier.isStatic(inside.getModifiers()), true);
            DUE.is("at most twenty fields " + inside, inside.getDeclaredFields().length <= 20, true);
            for (Method method : inside.getDeclaredMethods()) {
                DUE.is("no name of the face: " + method, names.contains(method.getName()), false);
                DUE.is("at most seven parameters: " + method, method.getParameterCount() <= 7, true);
            }
        }
    }

    private static void text() throws IOException {
        String text = Files.readString(SOURCE);
        String code = text.replaceAll("(?s)/\\*.*?\\*/", "").replaceAll("//[^\n]*", "");
        for (String pattern : NOT_IN_THE_TEXT) {
            DUE.is("without " + pattern, Pattern.compile(pattern).matcher(code).find(), false);
        }
        String imports = code.lines().filter(line -> line.startsWith("import")).reduce("", String::concat);
        DUE.is("imports: " + imports, imports.equals("import java.util.Arrays;"), true);
        DUE.is("plain characters", text.chars().allMatch(c -> c < 128), true);
    }

    /** The calls stand in the order of the document, below the headings that it tells. */
    private static void order() throws IOException {
        String text = Files.readString(SOURCE);
        int at = 0;
        for (String call : FACE) {
            for (String[] heading : HEADINGS) {
                if (heading[0].equals(name(call))) {
                    at = text.indexOf("// ---- " + heading[1] + "\n", Math.max(at, 0));
                    DUE.is("heading " + heading[1], at >= 0, true);
                }
            }
            at = text.indexOf("public " + call.substring(0, call.indexOf('(') + 1), Math.max(at, 0));
            DUE.is("in its place: " + call, at >= 0, true);
        }
    }

    /** The line that ends what this line begins. */
    private static String endOf(String line) {
        return line.substring(0, line.length() - line.stripLeading().length()) + "}";
    }

    private static void lengths() throws IOException {
        String head = "";
        String end = "";
        int length = 0;
        for (String line : Files.readAllLines(SOURCE)) {
            length++;
            if (end.isEmpty() && line.matches("(    |        )\\S.*\\) \\{")) {
                head = line;
                end = endOf(line);
                length = 1;
            } else if (!end.isEmpty() && line.equals(end)) {
                DUE.is("at most sixty lines: " + head, length <= 60, true);
                end = "";
            }
        }
    }

    /** Nothing may be made after the constructor, so the word new stands in constructors alone. */
    private static void room() throws IOException {
        String end = "";
        for (String line : Files.readAllLines(SOURCE)) {
            if (line.matches("\\s+(public )?[A-Z][A-Za-z]*\\(\\) \\{")) {
                end = endOf(line);
            } else if (line.equals(end)) {
                end = "";
            }
            boolean makes = line.matches(".*\\bnew [A-Za-z]+[\\[(].*") || line.contains("clone(")
                || line.contains("copyOf(") || line.contains("copyOfRange(");
            DUE.is("made in a constructor: " + line, makes && end.isEmpty(), false);
        }
    }
}
