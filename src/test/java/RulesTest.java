import java.io.IOException;
import java.lang.reflect.Field;
import java.lang.reflect.Method;
import java.lang.reflect.Modifier;
import java.nio.file.Files;
import java.nio.file.Path;
import java.util.Arrays;
import java.util.Random;
import java.util.Set;
import java.util.TreeSet;
import java.util.regex.Pattern;

/** Those rules of LANGUAGE.md, and the document's face, that can be seen from outside. */
final class RulesTest {
    private static final String SOURCE = "src/main/java/KiteStrings.java";
    private static final String[] FACE = {
        "int launch(int, int, int, int, int)", "int order(int, int, int)", "int step(int, int)", "int land(int)",
        "int pass(int)", "int round()", "int carryOut()", "int kite(int, int)", "int wear(int, int)",
        "int crossing(int, int, int)", "int count(int)", "int ifPassed(int, int)", "int firstCut(int)",
        "int meets(int, int)", "int bestOrder(int, int, int)", "int put(long)", "int wipe()", "int fault()",
        "int undo()", "int save(int)", "int restore(int)"};
    private static final String[] CONSTANTS = {
        "NO_SUCH=-1", "BAD_VALUE=-2", "BAD_TEXT=-3", "TOO_MANY=-4", "NOT_POSSIBLE=-5", "NONE=-6", "IN_THE_AIR=0", "CUT=1",
        "LANDED=2"};
    private static final String[] NOT_ALLOWED = {
        "\\bthrows?\\b", "\\btry\\b", "\\bcatch\\b", "\\bfinally\\b", "\\bsynchronized\\b", "\\bassert\\b",
        "\\bpackage\\b", "\\bimport\\s+(?!java\\.util\\.)", "->", "::", "static\\s*\\{", "\\bObject\\b",
        "\\bprotected\\b", "\\bSystem\\.(?!arraycopy)", "Exact\\b", "\\bThread\\b", "\\bRandom\\b"};

    private RulesTest() {
    }

    public static void main(String[] args) throws IOException, IllegalAccessException {
        faceIsTheDocuments();
        constantsAreTheDocuments();
        classesInsideKeepToTheRules();
        sourceKeepsToTheRules();
        callsNeverThrow();
        Check.end("RulesTest");
    }

    private static void faceIsTheDocuments() {
        Set<String> face = new TreeSet<>();
        for (Method method : KiteStrings.class.getDeclaredMethods()) {
            if (!Modifier.isPrivate(method.getModifiers())) {
                String arguments = Arrays.toString(method.getParameterTypes());
                face.add(method.getReturnType() + " " + method.getName() + "("
                    + arguments.substring(1, arguments.length() - 1) + ")");
                Check.due(method.getName() + " is public", Modifier.isPublic(method.getModifiers()) ? 1 : 0, 1);
                Check.due(method.getName() + " is static", Modifier.isStatic(method.getModifiers()) ? 1 : 0, 0);
            }
        }
        Check.same("the face", face.toString(), new TreeSet<>(Arrays.asList(FACE)).toString());
        Check.due("public final class", KiteStrings.class.getModifiers(), Modifier.PUBLIC | Modifier.FINAL);
        Check.due("constructors", KiteStrings.class.getDeclaredConstructors().length, 1);
        Check.due("public constructors", KiteStrings.class.getConstructors().length, 1);
    }

    private static void constantsAreTheDocuments() throws IllegalAccessException {
        Set<String> constants = new TreeSet<>();
        for (Field field : KiteStrings.class.getDeclaredFields()) {
            if (!Modifier.isPrivate(field.getModifiers())) {
                constants.add(field.getName() + "=" + field.getInt(null));
                Check.due(field.getName() + " is int", field.getType() == int.class ? 1 : 0, 1);
                Check.due(field.getName() + " is public static final", field.getModifiers(),
                    Modifier.PUBLIC | Modifier.STATIC | Modifier.FINAL);
            }
        }
        Check.same("the constants", constants.toString(), new TreeSet<>(Arrays.asList(CONSTANTS)).toString());
    }

    private static void classesInsideKeepToTheRules() {
        Set<String> names = new TreeSet<>();
        for (Method method : KiteStrings.class.getMethods()) {
            names.add(method.getName());
        }
        Class<?>[] inside = KiteStrings.class.getDeclaredClasses();
        Check.due("at most twelve classes", inside.length < 12 ? 1 : 0, 1);
        for (Class<?> one : inside) {
            Check.due(one + " is static", Modifier.isStatic(one.getModifiers()) ? 1 : 0, 1);
            for (Method method : one.getDeclaredMethods()) {
                Check.due(one + "." + method.getName() + " has a public name", names.contains(method.getName()) ? 1 : 0, 0);
                Check.due(method + ": at most seven parameters", method.getParameterCount() <= 7 ? 1 : 0, 1);
            }
            int fields = 0;
            for (Field field : one.getDeclaredFields()) {
                fields += Modifier.isStatic(field.getModifiers()) ? 0 : 1;
            }
            Check.due(one + ": at most twenty fields", fields <= 20 ? 1 : 0, 1);
        }
        for (Method method : KiteStrings.class.getDeclaredMethods()) {
            boolean twice = Modifier.isPrivate(method.getModifiers()) && names.contains(method.getName());
            Check.due(method + " has a public name", twice ? 1 : 0, 0);
        }
    }

    private static void sourceKeepsToTheRules() throws IOException {
        String source = Files.readString(Path.of(SOURCE));
        String code = source.replaceAll("(?s)/\\*.*?\\*/", "").replaceAll("//[^\n]*", "");
        code = code.replaceAll("(case [^:;{}]*?|default\\s*)->", "");
        for (String pattern : NOT_ALLOWED) {
            Check.due("the source has " + pattern, Pattern.compile(pattern).matcher(code).find() ? 1 : 0, 0);
        }
        for (int i = 0; i < source.length(); i++) {
            if (source.charAt(i) > 126) {
                Check.due("the sign at " + i, source.charAt(i), 126);
            }
        }
        int start = -1;
        String[] lines = source.split("\n");
        for (int i = 0; i < lines.length; i++) {
            if (lines[i].matches("( {4}| {8})[a-zA-Z].*\\) \\{")) {
                start = i;
            }
            if (start >= 0 && lines[i].matches("( {4}| {8})\\}")) {
                Check.due("line " + (start + 1) + ": a method of at most sixty lines", i - start <= 60 ? 1 : 0, 1);
                start = -1;
            }
        }
    }

    /** Long after the 512th call the answers are free, but still none throws. */
    private static void callsNeverThrow() {
        Random random = new Random(7);
        KiteStrings k = new KiteStrings();
        int errors = 0;
        for (int i = 0; i < 200000; i++) {
            errors += call(k, random) < 0 ? 1 : 0;
        }
        Check.due("some calls went well, and some did not", errors > 20000 && errors < 180000 ? 1 : 0, 1);
    }

    private static int wild(Random random, int most) {
        int kind = random.nextInt(12);
        return kind == 0 ? random.nextInt() : kind == 1 ? -random.nextInt(9) : random.nextInt(most + 1);
    }

    private static int call(KiteStrings k, Random random) {
        int a = wild(random, 5);
        int b = wild(random, 5);
        int c = wild(random, 5);
        switch (random.nextInt(24)) {
            case 0: return k.launch(wild(random, 63), wild(random, 63), wild(random, 47), c, wild(random, 100));
            case 1: return k.order(a, wild(random, 6) - 3, wild(random, 6) - 3);
            case 2: return k.step(a, wild(random, 63));
            case 3: return random.nextInt(9) == 0 ? k.land(a) : 0;
            case 4: return k.pass(wild(random, 9));
            case 5: return k.round();
            case 6: return k.carryOut();
            case 7: return k.kite(a, wild(random, 11));
            case 8: return k.wear(a, wild(random, 31));
            case 9: return k.crossing(a, b, c);
            case 10: return k.count(wild(random, 9));
            case 11: return random.nextInt(50) == 0 ? k.ifPassed(wild(random, 200), c) : 0;
            case 12: return random.nextInt(50) == 0 ? k.firstCut(c) : 0;
            case 13: return random.nextInt(50) == 0 ? k.meets(a, b) : 0;
            case 14: return random.nextInt(200) == 0 ? k.bestOrder(a, wild(random, 50), c) : 0;
            case 15: return k.put(random.nextLong());
            case 16: return k.put(random.nextLong() >>> random.nextInt(64));
            case 17: return random.nextInt(9) == 0 ? k.wipe() : 0;
            case 18: return k.fault();
            case 19: return k.undo();
            case 20: return k.save(wild(random, 1));
            case 21: return k.restore(wild(random, 1));
            case 22: return k.put(Check.number("0:+1-1;1"));
            default: return k.put(Check.number(":00;"));
        }
    }
}
