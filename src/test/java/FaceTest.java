import java.io.IOException;
import java.lang.reflect.Constructor;
import java.lang.reflect.Field;
import java.lang.reflect.Member;
import java.lang.reflect.Method;
import java.lang.reflect.Modifier;
import java.nio.file.Files;
import java.nio.file.Path;
import java.util.Arrays;
import java.util.HashSet;
import java.util.Set;
import java.util.TreeSet;
import java.util.regex.Matcher;
import java.util.regex.Pattern;

/** The public face of the document, and rules of LANGUAGE.md that can be looked for. */
final class FaceTest {
    private static final Check CHECK = new Check("FaceTest");
    private static final String[] FACE = {"int hall 4", "int ofLamp 2", "int ofSwitch 2", "int shade 2", "int turn 2",
        "int wire 2", "int press 2", "int day 5", "int fewest 4", "int halls 0", "int alone 1", "int idle 0",
        "int spare 0", "int reading 3", "int back 1", "int turnings 1", "int kinds 1", "int shadings 1", "long odds 2",
        "int sheet 3", "int lose 1", "int put 3", "long cell 3", "int copy 5", "int tell 1", "int feel 1", "int as 2",
        "int trace 0", "int fault 0", "int many 1"};

    public static void main(String[] args) throws IOException {
        constants();
        methods();
        membersAreHidden();
        classesInside();
        source();
        CHECK.end();
    }

    private static void constants() {
        CHECK.due("UNKNOWN", LampSwitches.UNKNOWN, -1);
        CHECK.due("OUTSIDE", LampSwitches.OUTSIDE, -2);
        CHECK.due("STATE", LampSwitches.STATE, -3);
        CHECK.due("FULL", LampSwitches.FULL, -4);
        CHECK.due("NONE", LampSwitches.NONE, -9);
        CHECK.due("LOST", LampSwitches.LOST, Long.MIN_VALUE);
        CHECK.due("public fields", LampSwitches.class.getFields().length, 6);
    }

    private static void methods() {
        Set<String> found = new TreeSet<>();
        Set<String> names = new HashSet<>();
        for (Method method : LampSwitches.class.getDeclaredMethods()) {
            if (Modifier.isPublic(method.getModifiers())) {
                names.add(method.getName());
                found.add(method.getReturnType() + " " + method.getName() + " " + method.getParameterCount());
                for (Class<?> type : method.getParameterTypes()) {
                    CHECK.due("parameter of " + method, type == int.class ? 1 : 0, 1);
                }
            }
        }
        CHECK.due("the face: " + found, found.equals(new TreeSet<>(Arrays.asList(FACE))) ? 1 : 0, 1);
        Class<?>[] all = Arrays.copyOf(LampSwitches.class.getDeclaredClasses(),
            LampSwitches.class.getDeclaredClasses().length + 1);
        all[all.length - 1] = LampSwitches.class;
        for (Class<?> type : all) {
            for (Method method : type.getDeclaredMethods()) {
                boolean isFace = type == LampSwitches.class && Modifier.isPublic(method.getModifiers());
                CHECK.due("name of " + method, !isFace && names.contains(method.getName()) ? 1 : 0, 0);
                CHECK.due("parameters of " + method, method.getParameterCount() <= 7 ? 1 : 0, 1);
            }
        }
    }

    private static void membersAreHidden() {
        CHECK.due("public and final", LampSwitches.class.getModifiers(), Modifier.PUBLIC | Modifier.FINAL);
        Constructor<?>[] constructors = LampSwitches.class.getDeclaredConstructors();
        CHECK.due("one constructor", constructors.length, 1);
        CHECK.due("that is public", constructors[0].getModifiers(), Modifier.PUBLIC);
        CHECK.due("without parameters", constructors[0].getParameterCount(), 0);
        for (Method method : LampSwitches.class.getDeclaredMethods()) {
            hidden(method);
        }
        for (Field field : LampSwitches.class.getDeclaredFields()) {
            hidden(field);
        }
    }

    private static void hidden(Member member) {
        int flags = member.getModifiers();
        CHECK.due(member + " is public or private", Modifier.isPublic(flags) || Modifier.isPrivate(flags) ? 1 : 0, 1);
    }

    private static void classesInside() {
        Class<?>[] inside = LampSwitches.class.getDeclaredClasses();
        CHECK.due("at most twelve classes", inside.length < 12 ? 1 : 0, 1);
        for (Class<?> type : inside) {
            CHECK.due(type + " is static", Modifier.isStatic(type.getModifiers()) ? 1 : 0, 1);
            for (Field field : type.getDeclaredFields()) {
                int flags = field.getModifiers();
                CHECK.due(field + " is no static state", Modifier.isStatic(flags) && !Modifier.isFinal(flags) ? 1 : 0, 0);
            }
        }
    }

    private static void source() throws IOException {
        String text = Files.readString(Path.of("src/main/java/LampSwitches.java"));
        String code = text.replaceAll("(?s)/\\*.*?\\*/", "").replaceAll("//[^\n]*", "");
        String[] banned = {"\\bimport\\b", "\\bpackage\\b", "\\bthrow\\b", "\\bthrows\\b", "\\btry\\b", "\\bcatch\\b",
            "\\bsynchronized\\b", "\\bassert\\b", "->", "::", "Exact\\b", "\\bprotected\\b", "\\bSystem\\.(?!arraycopy)",
            "\\bequals\\b", "\\bhashCode\\b", "\\btoString\\b", "static\\s*\\{"};
        for (String ban : banned) {
            Matcher found = Pattern.compile(ban).matcher(code);
            CHECK.due("in the source: " + ban, found.find() ? 1 : 0, 0);
        }
        CHECK.due("signs of 1 to 127 alone", text.chars().allMatch(sign -> sign < 128) ? 1 : 0, 1);
    }
}
