import java.io.IOException;
import java.lang.reflect.Constructor;
import java.lang.reflect.Field;
import java.lang.reflect.Method;
import java.lang.reflect.Modifier;
import java.nio.charset.StandardCharsets;
import java.nio.file.Files;
import java.nio.file.Path;
import java.util.List;
import java.util.Set;
import java.util.TreeSet;
import java.util.regex.Matcher;
import java.util.regex.Pattern;

/** The document's face, and those rules of LANGUAGE.md that can be seen in the source. */
public final class LanguageTest {
    private static final String FACE = "int floor(int,int) int wave(int,int,int) int leg(int,int,int) "
            + "int set(int,int,int) int told(int,int) int feed(int) int text() int force(int) int stands(int) "
            + "int standsAt(int,int,int) int firm() int fewest(int) int feels(int) int best(int) int turn(int) "
            + "int wedge() int saw() int screwed() int blame(int) int beside(int) int sit() int judge(int) "
            + "long which(int) int drawn(int) long odds(int,int,int) int image() int back() int count(int) "
            + "int sheet(int,int,int) int cell(int,int,int) int copy(int,int,int,int,int) "
            + "int floors(int,int,int,int) int taken(int,int)";
    private static final List<String> FORBIDDEN = List.of("\\bthrow", "\\btry\\b", "\\bcatch\\b", "\\bassert\\b",
            "\\bsynchronized\\b", "\\bimport\\b", "\\bpackage\\b", "->", "::", "\\bprotected\\b", "\\bnative\\b",
            "\\bvolatile\\b", "@", "\\bjava\\.", "Exact\\b", "\\.equals\\b", "\\.hashCode\\b", "\\.toString\\b",
            "\\bfloat\\b", "\\bdouble\\b", "\\bObject\\b", "\\bvar\\b", "\\byield\\b", "\\bthis\\b");
    private static final Set<String> LIBRARY = Set.of("Math.max", "Math.min", "Math.abs", "Math.floorMod",
            "System.arraycopy");
    private static final int MOST_LINES = 60;

    public static void main(String[] args) throws IOException {
        isFace();
        isPrivateElse();
        classesAreStatic();
        sourceKeepsRules();
        Due.end("LanguageTest");
    }

    private static void isFace() {
        Set<String> due = new TreeSet<>(List.of(FACE.split(" (?=int |long )")));
        Set<String> got = new TreeSet<>();
        for (Method method : TableRocks.class.getDeclaredMethods()) {
            if (!Modifier.isPrivate(method.getModifiers())) {
                String types = "";
                for (Class<?> type : method.getParameterTypes()) {
                    types += (types.isEmpty() ? "" : ",") + type.getName();
                }
                got.add(method.getReturnType().getName() + " " + method.getName() + "(" + types + ")");
                isTrue(method.getName() + " is public", method.getModifiers() == Modifier.PUBLIC);
            }
        }
        isTrue("the methods are " + got, got.equals(due));
        Constructor<?>[] made = TableRocks.class.getDeclaredConstructors();
        isTrue("one public constructor", made.length == 1 && made[0].getModifiers() == Modifier.PUBLIC
                && made[0].getParameterCount() == 0);
        isTrue("public and final", TableRocks.class.getModifiers() == (Modifier.PUBLIC | Modifier.FINAL));
        Due.is("NONE", TableRocks.NONE, -1);
        Due.is("BAD", TableRocks.BAD, -2);
        Due.is("STATE", TableRocks.STATE, -3);
        Due.is("FULL", TableRocks.FULL, -4);
        Due.is("NO", TableRocks.NO, -4611686018427387904L);
    }

    private static void isPrivateElse() {
        Set<String> constants = Set.of("NONE", "BAD", "STATE", "FULL", "NO");
        for (Field field : TableRocks.class.getDeclaredFields()) {
            boolean isPublic = constants.contains(field.getName());
            isTrue("field " + field.getName(), isPublic == Modifier.isPublic(field.getModifiers())
                    && isPublic != Modifier.isPrivate(field.getModifiers()));
        }
        for (Method method : TableRocks.class.getDeclaredMethods()) {
            boolean isFace = FACE.contains(" " + method.getName() + "(");
            isTrue("name of " + method, isFace == Modifier.isPublic(method.getModifiers()));
        }
    }

    private static void classesAreStatic() {
        isTrue("at most 12 classes", TableRocks.class.getDeclaredClasses().length < 12);
        for (Class<?> inner : TableRocks.class.getDeclaredClasses()) {
            isTrue(inner + " is static", Modifier.isStatic(inner.getModifiers()));
            statesAreFew(inner);
        }
        statesAreFew(TableRocks.class);
    }

    private static void statesAreFew(Class<?> one) {
        int states = 0;
        for (Field field : one.getDeclaredFields()) {
            boolean isStatic = Modifier.isStatic(field.getModifiers());
            isTrue(field + " is final, if static", !isStatic || Modifier.isFinal(field.getModifiers()));
            states += isStatic ? 0 : 1;
        }
        for (Method method : one.getDeclaredMethods()) {
            isTrue(method + " takes at most 7", method.getParameterCount() <= 7);
        }
        isTrue(one + " has at most 20 fields", states <= 20);
    }

    private static void sourceKeepsRules() throws IOException {
        byte[] bytes = Files.readAllBytes(Path.of("src/main/java/TableRocks.java"));
        for (byte b : bytes) {
            if (b < 10 || b > 126) {
                Due.is("a byte of the source", b, 32);
            }
        }
        String source = new String(bytes, StandardCharsets.US_ASCII);
        String code = source.replaceAll("(?s)/\\*.*?\\*/", "").replaceAll("//[^\n]*", "");
        for (String word : FORBIDDEN) {
            isTrue("no " + word, !Pattern.compile(word).matcher(code).find());
        }
        Matcher calls = Pattern.compile("\\b(Math|System|Integer|Long|Arrays|String|Character)\\.\\w+").matcher(code);
        while (calls.find()) {
            isTrue(calls.group() + " is of the library told", LIBRARY.contains(calls.group()));
        }
        methodsAreShort(code);
    }

    private static void methodsAreShort(String code) {
        String[] lines = code.split("\n");
        for (int i = 0; i < lines.length; i++) {
            if (lines[i].matches(" +(public|private) [^=;]*\\) \\{")) {
                int from = i;
                String end = lines[i].replaceAll("\\S.*", "") + "}";
                while (i < lines.length - 1 && !lines[i].equals(end)) {
                    i++;
                }
                isTrue("short:" + lines[from], i - from < MOST_LINES);
            }
        }
    }

    private static void isTrue(String what, boolean isSo) {
        Due.is(what, isSo ? 1 : 0, 1);
    }
}
