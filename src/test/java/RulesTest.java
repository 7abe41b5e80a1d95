import java.io.IOException;
import java.lang.reflect.Field;
import java.lang.reflect.Method;
import java.lang.reflect.Modifier;
import java.nio.file.Files;
import java.nio.file.Path;
import java.util.Arrays;
import java.util.Set;
import java.util.TreeSet;
import java.util.regex.Pattern;

/** Those rules of LANGUAGE.md, and the document's face, that can be seen from outside. */
final class RulesTest {
    private static final String SOURCE = "src/main/java/KiteStrings.java";
    private static final String[] FACE = {
        "int launch(int, int, int, int, int)", "int order(int, int, int)", "int step(int, int)", "int land(int)",
        "int pass(int)", "int round()", "int carryOut()", "int kite(int, int)", "int wear(int, int)",
        "int crossing(int, int, int)", "int count(int)", "int ifPassed(int, int)", "int firstCut(int)",
        "int meets(int, int)", "int bestOrder(int, int, int)", "int put(long)", "int wipe()", "int fault()",
        "int undo()", "int save(int)", "int restore(int)"};
    private static final String[] CONSTANTS = {
        "NO_SUCH=-1", "BAD_VALUE=-2", "BAD_TEXT=-3", "TOO_MANY=-4", "NOT_POSSIBLE=-5", "NONE=-6", "IN_THE_AIR=0", "CUT=1",
        "LANDED=2"};
    private static final String[] NOT_ALLOWED = {
        "\\bthrows?\\b", "\\btry\\b", "\\bcatch\\b", "\\bfinally\\b", "\\bsynchronized\\b", "\\bassert\\b", "\\bimport\\b",
        "\\bpackage\\b", "->", "::", "static\\s*\\{", "\\bequals\\b", "\\bhashCode\\b", "\\btoString\\b", "\\bObject\\b",
        "\\bprotected\\b", "\\bvar\\b", "\\brecord\\s+[A-Z]", "@", "\\bSystem\\.(?!arraycopy)", "\\bMath\\.(?!abs|max|min)",
        "Exact\\b", "\\bdo\\b", "\\bwhile\\b"};

    private RulesTest() {
    }

    public static void main(String[] args) throws IOException, IllegalAccessException {
        faceIsTheDocuments();
        constantsAreTheDocuments();
        classesInsideKeepToTheRules();
        sourceKeepsToTheRules();
        Check.end("RulesTest");
    }

    private static void faceIsTheDocuments() {
        Set<String> face = new TreeSet<>();
        for (Method method : KiteStrings.class.getDeclaredMethods()) {
            if (!Modifier.isPrivate(method.getModifiers())) {
                String arguments = Arrays.toString(method.getParameterTypes());
                face.add(method.getReturnType() + " " + method.getName() + "("
                    + arguments.substring(1, arguments.length() - 1) + ")");
                Check.due(method.getName() + " is public", Modifier.isPublic(method.getModifiers()) ? 1 : 0, 1);
                Check.due(method.getName() + " is static", Modifier.isStatic(method.getModifiers()) ? 1 : 0, 0);
            }
        }
        Check.same("the face", face.toString(), new TreeSet<>(Arrays.asList(FACE)).toString());
        Check.due("public final class", KiteStrings.class.getModifiers(), Modifier.PUBLIC | Modifier.FINAL);
        Check.due("constructors", KiteStrings.class.getDeclaredConstructors().length, 1);
        Check.due("public constructors", KiteStrings.class.getConstructors().length, 1);
    }

    private static void constantsAreTheDocuments() throws IllegalAccessException {
        Set<String> constants = new TreeSet<>();
        for (Field field : KiteStrings.class.getDeclaredFields()) {
            if (!Modifier.isPrivate(field.getModifiers())) {
                constants.add(field.getName() + "=" + field.getInt(null));
                Check.due(field.getName() + " is int", field.getType() == int.class ? 1 : 0, 1);
                Check.due(field.getName() + " is public static final", field.getModifiers(),
                    Modifier.PUBLIC | Modifier.STATIC | Modifier.FINAL);
            }
        }
        Check.same("the constants", constants.toString(), new TreeSet<>(Arrays.asList(CONSTANTS)).toString());
    }

    private static void classesInsideKeepToTheRules() {
        Set<String> names = new TreeSet<>();
        for (Method method : KiteStrings.class.getMethods()) {
            names.add(method.getName());
        }
        Class<?>[] inside = KiteStrings.class.getDeclaredClasses();
        Check.due("at most twelve classes", inside.length < 12 ? 1 : 0, 1);
        for (Class<?> one : inside) {
            Check.due(one + " is static", Modifier.isStatic(one.getModifiers()) ? 1 : 0, 1);
            for (Method method : one.getDeclaredMethods()) {
                Check.due(one + "." + method.getName() + " has a public name", names.contains(method.getName()) ? 1 : 0, 0);
                Check.due(method + ": at most seven parameters", method.getParameterCount() <= 7 ? 1 : 0, 1);
            }
            int fields = 0;
            for (Field field : one.getDeclaredFields()) {
                fields += Modifier.isStatic(field.getModifiers()) ? 0 : 1;
            }
            Check.due(one + ": at most twenty fields", fields <= 20 ? 1 : 0, 1);
        }
        for (Method method : KiteStrings.class.getDeclaredMethods()) {
            boolean twice = Modifier.isPrivate(method.getModifiers()) && names.contains(method.getName());
            Check.due(method + " has a public name", twice ? 1 : 0, 0);
        }
    }

    private static void sourceKeepsToTheRules() throws IOException {
        String source = Files.readString(Path.of(SOURCE));
        String code = source.replaceAll("(?s)/\\*.*?\\*/", "").replaceAll("//[^\n]*", "");
        for (String pattern : NOT_ALLOWED) {
            Check.due("the source has " + pattern, Pattern.compile(pattern).matcher(code).find() ? 1 : 0, 0);
        }
        for (int i = 0; i < source.length(); i++) {
            if (source.charAt(i) > 126) {
                Check.due("the sign at " + i, source.charAt(i), 126);
            }
        }
        int start = -1;
        String[] lines = source.split("\n");
        for (int i = 0; i < lines.length; i++) {
            if (lines[i].matches("( {4}| {8})[a-zA-Z].*\\) \\{")) {
                start = i;
            }
            if (start >= 0 && lines[i].matches("( {4}| {8})\\}")) {
                Check.due("line " + (start + 1) + ": a method of at most sixty lines", i - start <= 60 ? 1 : 0, 1);
                start = -1;
            }
        }
    }
}
