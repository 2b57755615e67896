import java.lang.reflect.Constructor;
import java.lang.reflect.Field;
import java.lang.reflect.Method;
import java.lang.reflect.Modifier;
import java.nio.file.Files;
import java.nio.file.Path;
import java.util.Arrays;
import java.util.List;
import java.util.Set;
import java.util.TreeSet;
import java.util.regex.Matcher;
import java.util.regex.Pattern;

/** The face of the document and those rules of LANGUAGE.md that can be seen from outside. */
public final class LanguageTest {
    private static final List<String> FACE = List.of("int letter(int)", "int blank()", "int fault()", "int house()",
        "int person(int, int)", "int as(int, int)", "int door(int, int)", "int debt(int, int)", "int go(int, int)",
        "int give(int, int)", "int pay(int)", "int earn(int, int)", "int owe(int, int)", "int way(int, int, int)",
        "int night(int, int, int)", "int cancel(int, int)", "int sound()", "int met(int, int, int, int)",
        "int see(int, boolean)", "int forget()", "int winters(int, int, int)", "int image()", "int restore()",
        "int count(int)", "long digest()");
    private static final List<String> CONSTANTS = List.of("NONE", "UNKNOWN", "OUTSIDE", "STATE", "FULL");
    private static final String[] FORBIDDEN = {"\\bthrow\\b", "\\btry\\b", "\\bcatch\\b", "\\bsynchronized\\b",
        "\\bassert\\b", "\\bpackage\\b", "->", "::", "static\\s*\\{", "\\bwhile\\s*\\(true\\)", "\\bSystem\\.",
        "\\bThread\\b", "\\bRandom\\b", "\\bhashCode\\b", "\\btoString\\b", "Exact\\("};

    private static int wrong = 0;

    private static void holds(boolean so, String rule) {
        if (!so) {
            wrong++;
            System.out.println("not so: " + rule);
        }
    }

    public static void main(String[] args) throws Exception {
        face();
        classesInside();
        source(Files.readString(Path.of(System.getProperty("project", "."), "src/main/java/DebtRooms.java")));
        System.out.println(wrong == 0 ? "the rules hold" : wrong + " rules do not hold");
        if (wrong != 0) {
            System.exit(1);
        }
    }

    private static void face() {
        int modifiers = DebtRooms.class.getModifiers();
        holds(Modifier.isPublic(modifiers) && Modifier.isFinal(modifiers), "the class is public and final");
        Set<String> told = new TreeSet<>();
        for (Method method : DebtRooms.class.getDeclaredMethods()) {
            if (!Modifier.isPrivate(method.getModifiers())) {
                holds(Modifier.isPublic(method.getModifiers()), method + " is public or private");
                String types = Arrays.toString(method.getParameterTypes());
                told.add(method.getReturnType() + " " + method.getName() + "("
                    + types.substring(1, types.length() - 1) + ")");
            }
        }
        holds(told.equals(new TreeSet<>(FACE)), "the methods are the document's: " + told);
        Set<String> constants = new TreeSet<>();
        for (Field field : DebtRooms.class.getDeclaredFields()) {
            holds(!Modifier.isStatic(field.getModifiers()) || Modifier.isFinal(field.getModifiers()), field + " is final");
            if (!Modifier.isPrivate(field.getModifiers())) {
                constants.add(field.getName());
            }
        }
        holds(constants.equals(new TreeSet<>(CONSTANTS)), "the constants are the document's: " + constants);
        Constructor<?>[] makers = DebtRooms.class.getDeclaredConstructors();
        holds(makers.length == 1 && Modifier.isPublic(makers[0].getModifiers())
            && makers[0].getParameterCount() == 0, "one public constructor");
    }

    private static void classesInside() {
        Set<String> open = new TreeSet<>();
        FACE.forEach(method -> open.add(method.substring(method.indexOf(' ') + 1, method.indexOf('('))));
        Class<?>[] inside = DebtRooms.class.getDeclaredClasses();
        holds(inside.length <= 12, "at most twelve classes");
        for (Class<?> one : inside) {
            int modifiers = one.getModifiers();
            holds(Modifier.isStatic(modifiers) && !Modifier.isPublic(modifiers), one + " is static, not public");
            holds(one.getDeclaredFields().length <= 25, one + " has few fields");
            for (Method method : one.getDeclaredMethods()) {
                holds(!open.contains(method.getName()), method + " bears no public name");
                holds(method.getParameterCount() <= 7, method + " takes at most seven");
            }
        }
    }

    private static void source(String text) {
        String bare = text.replaceAll("(?s)/\\*.*?\\*/", "").replaceAll("//[^\n]*", "");
        for (String forbidden : FORBIDDEN) {
            holds(!Pattern.compile(forbidden).matcher(bare).find(), "there is no " + forbidden);
        }
        holds(!bare.contains("import "), "nothing is imported");
        holds(text.chars().allMatch(sign -> sign == '\n' || sign >= 32 && sign < 127), "plain signs alone");
        Matcher method = Pattern.compile("(?m)^( {4}| {8})\\S[^;=\n]*\\) \\{\n(?s:.*?)^\\1\\}").matcher(text);
        while (method.find()) {
            long lines = method.group().lines().count();
            holds(lines <= 60, "sixty lines at most, not " + lines + ": " + method.group().lines().findFirst().get());
        }
    }
}
