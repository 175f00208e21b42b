import java.io.IOException;
import java.lang.reflect.Constructor;
import java.lang.reflect.Field;
import java.lang.reflect.Member;
import java.lang.reflect.Method;
import java.lang.reflect.Modifier;
import java.nio.file.Files;
import java.nio.file.Path;
import java.util.Arrays;
import java.util.HashSet;
import java.util.Set;
import java.util.TreeSet;
import java.util.regex.Matcher;
import java.util.regex.Pattern;

/** The public face of the document, and rules of LANGUAGE.md that can be looked for. */
final class FaceTest {
    private static final Check CHECK = new Check("FaceTest");
    /** The calls as the document's face tells them, behind what the interface says ahead of them. */
    private static final String[] FACE = {
        "// ---- 1 the hall",
        "int hall(int sheet, int lane, int i, int n)",
        "int ofLamp(int l, int what)",
        "int ofSwitch(int s, int what)",
        "int shade(int l, int v)",
        "int turn(int s, int v)",
        "int wire(int s, int l)",
        "// ---- 2 presses",
        "int press(int s, int n)",
        "int day(int sheet, int lane, int i, int n, int what)",
        "// ---- 3 what can be come to",
        "int fewest(int sheet, int lane, int i, int k)",
        "int halls()",
        "int alone(int l)",
        "int idle()",
        "int spare()",
        "// ---- 4 what turned",
        "int reading(int s, int l, int v)",
        "int back(int n)",
        "int turnings(int s)",
        "int kinds(int s)",
        "int shadings(int l)",
        "long odds(int n, int which)",
        "// ---- 5 sheets, parts",
        "int sheet(int k, int lane, int n)",
        "int lose(int k)",
        "int put(int k, int i, int v)",
        "long cell(int k, int i, int lane)",
        "int copy(int k, int i, int other, int j, int n)",
        "int tell(int s)",
        "int feel(int s)",
        "int as(int s, int kind)",
        "int trace()",
        "int fault()",
        "int many(int what)"};
    private static final Set<String> LIBRARY = Set.of("Math", "System", "Long");
    private static final int MOST_LINES = 60, MOST_FIELDS = 20;

    public static void main(String[] args) throws IOException {
        constants();
        methods();
        membersAreHidden();
        classesInside();
        String text = Files.readString(Path.of("src/main/java/LampSwitches.java"));
        callsInTheirOrder(text);
        source(text);
        shortMethods(text);
        CHECK.end();
    }

    private static void constants() {
        CHECK.due("UNKNOWN", LampSwitches.UNKNOWN, -1);
        CHECK.due("OUTSIDE", LampSwitches.OUTSIDE, -2);
        CHECK.due("STATE", LampSwitches.STATE, -3);
        CHECK.due("FULL", LampSwitches.FULL, -4);
        CHECK.due("NONE", LampSwitches.NONE, -9);
        CHECK.due("LOST", LampSwitches.LOST, Long.MIN_VALUE);
        CHECK.due("public fields", LampSwitches.class.getFields().length, 6);
    }

    private static void methods() {
        Set<String> found = new TreeSet<>();
        Set<String> names = new HashSet<>();
        for (Method method : LampSwitches.class.getDeclaredMethods()) {
            if (Modifier.isPublic(method.getModifiers())) {
                names.add(method.getName());
                found.add(method.getReturnType() + " " + method.getName() + " " + method.getParameterCount());
                CHECK.due(method + " is of each object", Modifier.isStatic(method.getModifiers()) ? 1 : 0, 0);
                for (Class<?> type : method.getParameterTypes()) {
                    CHECK.due("parameter of " + method, type == int.class ? 1 : 0, 1);
                }
            }
        }
        CHECK.due("the face: " + found, found.equals(faceByCount()) ? 1 : 0, 1);
        Class<?>[] all = Arrays.copyOf(LampSwitches.class.getDeclaredClasses(),
            LampSwitches.class.getDeclaredClasses().length + 1);
        all[all.length - 1] = LampSwitches.class;
        for (Class<?> type : all) {
            for (Method method : type.getDeclaredMethods()) {
                boolean isFace = type == LampSwitches.class && Modifier.isPublic(method.getModifiers());
                CHECK.due("name of " + method, !isFace && names.contains(method.getName()) ? 1 : 0, 0);
                CHECK.due("parameters of " + method, method.getParameterCount() <= 7 ? 1 : 0, 1);
            }
        }
    }

    /** What each call answers, its name, how many numbers it takes. */
    private static Set<String> faceByCount() {
        Set<String> face = new TreeSet<>();
        for (String line : FACE) {
            if (!line.startsWith("//")) {
                int open = line.indexOf('(');
                long numbers = line.substring(open).chars().filter(sign -> sign == ' ').count();
                face.add(line.substring(0, open) + " " + (numbers + 1) / 2);
            }
        }
        return face;
    }

    private static void membersAreHidden() {
        CHECK.due("public and final", LampSwitches.class.getModifiers(), Modifier.PUBLIC | Modifier.FINAL);
        Constructor<?>[] constructors = LampSwitches.class.getDeclaredConstructors();
        CHECK.due("one constructor", constructors.length, 1);
        CHECK.due("that is public", constructors[0].getModifiers(), Modifier.PUBLIC);
        CHECK.due("without parameters", constructors[0].getParameterCount(), 0);
        for (Method method : LampSwitches.class.getDeclaredMethods()) {
            hidden(method);
        }
        for (Field field : LampSwitches.class.getDeclaredFields()) {
            hidden(field);
        }
    }

    private static void hidden(Member member) {
        int flags = member.getModifiers();
        CHECK.due(member + " is public or private", Modifier.isPublic(flags) || Modifier.isPrivate(flags) ? 1 : 0, 1);
    }

    private static void classesInside() {
        Class<?>[] inside = LampSwitches.class.getDeclaredClasses();
        CHECK.due("at most twelve classes", inside.length < 12 ? 1 : 0, 1);
        CHECK.due("few fields", fieldsOf(LampSwitches.class) <= MOST_FIELDS ? 1 : 0, 1);
        for (Class<?> type : inside) {
            CHECK.due(type + " is static", Modifier.isStatic(type.getModifiers()) ? 1 : 0, 1);
            CHECK.due(type + " has few fields", fieldsOf(type) <= MOST_FIELDS ? 1 : 0, 1);
            for (Field field : type.getDeclaredFields()) {
                int flags = field.getModifiers();
                CHECK.due(field + " is no static state", Modifier.isStatic(flags) && !Modifier.isFinal(flags) ? 1 : 0, 0);
            }
        }
    }

    private static long fieldsOf(Class<?> type) {
        return Arrays.stream(type.getDeclaredFields()).filter(field -> !Modifier.isStatic(field.getModifiers())).count();
    }

    private static void callsInTheirOrder(String text) {
        int behind = 0;
        for (String line : FACE) {
            boolean heading = line.startsWith("//");
            CHECK.says(heading ? "the interface says: " + line.substring(3) + "." : "public " + line + ";");
            String told = heading ? "\n    " + line + "\n" : "\n    public " + line + " {\n";
            int at = text.indexOf(told);
            CHECK.due("stands behind those ahead of it", at >= behind ? 1 : 0, 1);
            CHECK.due("stands there once", text.indexOf(told, at + 1), -1);
            behind = at;
        }
    }

    private static String withoutComments(String text) {
        return text.replaceAll("(?s)/\\*.*?\\*/", "").replaceAll("//[^\n]*", "");
    }

    private static void source(String text) {
        CHECK.says("The program is one file");
        String code = withoutComments(text);
        String[] banned = {"\\bimport\\b", "\\bpackage\\b", "\\bthrow\\b", "\\bthrows\\b", "\\btry\\b", "\\bcatch\\b",
            "\\bsynchronized\\b", "\\bassert\\b", "->", "::", "Exact\\b", "\\bprotected\\b", "\\bSystem\\.(?!arraycopy)",
            "\\bequals\\b", "\\bhashCode\\b", "\\btoString\\b", "static\\s*\\{", "while\\s*\\(\\s*true", "for\\s*\\(\\s*;",
            "\\bjava\\.", "\\bdouble\\b", "\\bfloat\\b", "\\bvar\\b"};
        for (String ban : banned) {
            Matcher found = Pattern.compile(ban).matcher(code);
            CHECK.due("in the source: " + ban, found.find() ? 1 : 0, 0);
        }
        Set<String> own = new HashSet<>(Set.of("LampSwitches"));
        for (Class<?> type : LampSwitches.class.getDeclaredClasses()) {
            own.add(type.getSimpleName());
        }
        Matcher name = Pattern.compile("\\b[A-Z]\\w*[a-z]\\w*").matcher(code);
        while (name.find()) {
            boolean known = own.contains(name.group()) || LIBRARY.contains(name.group());
            CHECK.due("a class of its own or of the library: " + name.group(), known ? 1 : 0, 1);
        }
        CHECK.due("signs of 1 to 127 alone", text.chars().allMatch(sign -> sign < 128) ? 1 : 0, 1);
    }

    /** A method's first line ends with ") {"; its last is the brace that stands as far in as the first line. */
    private static void shortMethods(String text) {
        CHECK.says("Methods stay short (some sixty lines)");
        String[] lines = text.split("\n");
        for (int at = 0; at < lines.length; at++) {
            Matcher first = Pattern.compile("( {4}| {8})(\\w[\\w\\[\\] ]*\\()[^=;]*\\) \\{").matcher(lines[at]);
            if (first.matches() && !first.group(2).matches("(if|for|while|switch) \\(")) {
                int end = at;
                while (end < lines.length && !lines[end].equals(first.group(1) + "}")) {
                    end++;
                }
                CHECK.due("lines of " + first.group(2), end - at < MOST_LINES ? 1 : 0, 1);
            }
        }
    }
}
