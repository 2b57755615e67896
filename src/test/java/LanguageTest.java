import com.sun.source.tree.CompilationUnitTree;
import com.sun.source.tree.DoWhileLoopTree;
import com.sun.source.tree.ExpressionTree;
import com.sun.source.tree.ForLoopTree;
import com.sun.source.tree.LiteralTree;
import com.sun.source.tree.MethodInvocationTree;
import com.sun.source.tree.MethodTree;
import com.sun.source.tree.NewClassTree;
import com.sun.source.tree.ParenthesizedTree;
import com.sun.source.tree.WhileLoopTree;
import com.sun.source.util.JavacTask;
import com.sun.source.util.TreePath;
import com.sun.source.util.TreePathScanner;
import com.sun.source.util.Trees;
import java.lang.management.ManagementFactory;
import java.lang.reflect.Constructor;
import java.lang.reflect.Field;
import java.lang.reflect.Method;
import java.lang.reflect.Modifier;
import java.nio.file.Files;
import java.nio.file.Path;
import java.util.ArrayDeque;
import java.util.ArrayList;
import java.util.Arrays;
import java.util.Deque;
import java.util.LinkedHashMap;
import java.util.LinkedHashSet;
import java.util.List;
import java.util.Map;
import java.util.Set;
import java.util.TreeMap;
import java.util.TreeSet;
import java.util.regex.Matcher;
import java.util.regex.Pattern;
import javax.lang.model.element.Element;
import javax.lang.model.element.ExecutableElement;
import javax.lang.model.element.TypeElement;
import javax.tools.JavaCompiler;
import javax.tools.StandardJavaFileManager;
import javax.tools.ToolProvider;

/** The face of the document and those rules of LANGUAGE.md that can be checked without running the class. */
public final class LanguageTest {
    private static final List<String> FACE = List.of("int letter(int)", "int blank()", "int fault()", "int house()",
        "int person(int, int)", "int as(int, int)", "int door(int, int)", "int debt(int, int)", "int go(int, int)",
        "int give(int, int)", "int pay(int)", "int earn(int, int)", "int owe(int, int)", "int way(int, int, int)",
        "int night(int, int, int)", "int cancel(int, int)", "int sound()", "int met(int, int, int, int)",
        "int see(int, boolean)", "int forget()", "int winters(int, int, int)", "int image()", "int restore()",
        "int count(int)", "long digest()");
    private static final Map<String, Integer> CONSTANTS = new TreeMap<>(
        Map.of("NONE", -1, "UNKNOWN", -101, "OUTSIDE", -102, "STATE", -103, "FULL", -104));
    private static final String[] FORBIDDEN = {"\\bthrow\\b", "\\btry\\b", "\\bcatch\\b", "\\bsynchronized\\b",
        "\\bassert\\b", "\\bpackage\\b", "->", "::", "static\\s*\\{", "\\bThread\\b", "\\bRandom\\b", "\\bhashCode\\b",
        "\\bthrows\\b", "Exact\\("};

    /** Rule 4, but for the functions of Integer, Long and Math. */
    private static final Set<String> LIBRARY = Set.of(
        "String.length", "String.charAt", "String.isEmpty", "String.equals", "String.indexOf", "String.substring",
        "String.toCharArray", "StringBuilder.append", "StringBuilder.charAt", "StringBuilder.setCharAt",
        "StringBuilder.setLength", "StringBuilder.deleteCharAt", "StringBuilder.reverse", "StringBuilder.length",
        "StringBuilder.toString", "ArrayList.add", "ArrayList.get", "ArrayList.set", "ArrayList.remove",
        "ArrayList.size", "ArrayList.isEmpty", "ArrayList.clear", "List.add", "List.get", "List.set", "List.remove",
        "List.size", "List.isEmpty", "List.clear", "List.of", "System.arraycopy", "Arrays.copyOf",
        "Arrays.copyOfRange", "Arrays.fill", "Array.clone");
    private static final Set<String> MADE_OF_THE_LIBRARY = Set.of("String", "StringBuilder", "ArrayList");
    private static final int MOST_DEEP = 8, MOST_CLASSES = 12, MOST_FIELDS = 20, MOST_PARAMETERS = 7, MOST_LINES = 60;

    /** So many objects may be made in a run; each takes 16 bytes at least. */
    private static final long ROOM_IN_BYTES = 600_000L * 16;

    private static int wrong = 0;

    private static void holds(boolean so, String rule) {
        if (!so) {
            wrong++;
            System.out.println("not so: " + rule);
        }
    }

    public static void main(String[] args) throws Exception {
        Path source = Path.of(System.getProperty("project", "."), "src/main/java/DebtRooms.java");
        face();
        classesInside();
        source(Files.readString(source));
        tree(source);
        room();
        System.out.println(wrong == 0 ? "the rules hold" : wrong + " rules do not hold");
        if (wrong != 0) {
            System.exit(1);
        }
    }

    // ---- rule 1

    private static void face() throws IllegalAccessException {
        int modifiers = DebtRooms.class.getModifiers();
        holds(Modifier.isPublic(modifiers) && Modifier.isFinal(modifiers), "the class is public and final");
        holds(DebtRooms.class.getSuperclass() == Object.class && DebtRooms.class.getInterfaces().length == 0,
            "the class is of no other one");
        Set<String> told = new TreeSet<>();
        for (Method method : DebtRooms.class.getDeclaredMethods()) {
            if (!Modifier.isPrivate(method.getModifiers())) {
                holds(Modifier.isPublic(method.getModifiers()), method + " is public or private");
                holds(!Modifier.isStatic(method.getModifiers()), method + " is not static");
                String types = Arrays.toString(method.getParameterTypes());
                told.add(method.getReturnType() + " " + method.getName() + "("
                    + types.substring(1, types.length() - 1) + ")");
            }
        }
        holds(told.equals(new TreeSet<>(FACE)), "the methods are the document's: " + told);
        Map<String, Integer> constants = new TreeMap<>();
        for (Field field : DebtRooms.class.getDeclaredFields()) {
            if (!Modifier.isPrivate(field.getModifiers())) {
                boolean isConstant = field.getModifiers() == (Modifier.PUBLIC | Modifier.STATIC | Modifier.FINAL)
                    && field.getType() == int.class;
                holds(isConstant, field + " is a public constant of int");
                constants.put(field.getName(), isConstant ? field.getInt(null) : 0);
            }
        }
        holds(constants.equals(CONSTANTS), "the constants are the document's: " + constants);
        Constructor<?>[] makers = DebtRooms.class.getDeclaredConstructors();
        holds(makers.length == 1 && Modifier.isPublic(makers[0].getModifiers())
            && makers[0].getParameterCount() == 0, "one public constructor");
    }

    private static void classesInside() {
        Set<String> open = new TreeSet<>();
        FACE.forEach(method -> open.add(method.substring(method.indexOf(' ') + 1, method.indexOf('('))));
        Class<?>[] inside = DebtRooms.class.getDeclaredClasses();
        holds(inside.length + 1 <= MOST_CLASSES, "at most some twelve classes");
        fieldsOf(DebtRooms.class);
        for (Method method : DebtRooms.class.getDeclaredMethods()) {
            boolean isPrivate = Modifier.isPrivate(method.getModifiers());
            holds(!isPrivate || !open.contains(method.getName()), method + " bears no public name");
            holds(method.getParameterCount() <= MOST_PARAMETERS, method + " takes at most seven");
        }
        for (Class<?> one : inside) {
            int modifiers = one.getModifiers();
            boolean isOpen = Modifier.isPublic(modifiers) || Modifier.isProtected(modifiers);
            holds(Modifier.isStatic(modifiers) && !isOpen, one + " is static, not open");
            holds(one.getDeclaredClasses().length == 0, one + " has no class inside");
            fieldsOf(one);
            for (Method method : one.getDeclaredMethods()) {
                holds(!open.contains(method.getName()), method + " bears no public name");
                holds(method.getParameterCount() <= MOST_PARAMETERS, method + " takes at most seven");
            }
        }
    }

    /** Rules 5 and 11: what is static is a constant, and of the rest there is not much. */
    private static void fieldsOf(Class<?> one) {
        List<Class<?>> constants = List.of(int.class, long.class, boolean.class, char.class, String.class,
            int[].class, long[].class, char[].class, byte[].class);
        int many = 0;
        for (Field field : one.getDeclaredFields()) {
            if (Modifier.isStatic(field.getModifiers())) {
                boolean isOfEnum = field.isEnumConstant() || one.isEnum() && field.isSynthetic();
                holds(isOfEnum || Modifier.isFinal(field.getModifiers()) && constants.contains(field.getType()),
                    field + " is a constant");
            } else {
                many++;
            }
        }
        holds(many <= MOST_FIELDS, one + " has few fields");
    }

    // ---- what can be seen from the text

    private static void source(String text) {
        String bare = text.replaceAll("(?s)/\\*.*?\\*/", "").replaceAll("//[^\n]*", "");
        for (String forbidden : FORBIDDEN) {
            holds(!Pattern.compile(forbidden).matcher(bare).find(), "there is no " + forbidden);
        }
        holds(text.chars().allMatch(sign -> sign == '\n' || sign >= 32 && sign < 127), "plain signs alone");
        Matcher method = Pattern.compile("(?m)^( {4}| {8})\\S[^;=\n]*\\) \\{\n(?s:.*?)^\\1\\}").matcher(text);
        while (method.find()) {
            long lines = method.group().lines().count();
            holds(lines <= MOST_LINES, "sixty lines at most: " + method.group().lines().findFirst().get());
        }
    }

    // ---- what the compiler knows: which methods are called, from where

    private static void tree(Path source) throws Exception {
        JavaCompiler compiler = ToolProvider.getSystemJavaCompiler();
        if (compiler == null) {
            holds(false, "a JDK runs the tests");
            return;
        }
        try (StandardJavaFileManager files = compiler.getStandardFileManager(null, null, null)) {
            JavacTask task = (JavacTask) compiler.getTask(null, files, null, List.of("-proc:none", "--release", "17"),
                null, files.getJavaFileObjects(source));
            List<CompilationUnitTree> units = new ArrayList<>();
            task.parse().forEach(units::add);
            task.analyze();
            Calls calls = new Calls(task);
            units.forEach(unit -> calls.scan(unit, null));
            calls.depths();
        }
    }

    /** The calls that each method of the class makes, of its own and of the library. */
    private static final class Calls extends TreePathScanner<Void, Void> {
        private final JavacTask task;
        private final Trees trees;
        private final Map<Element, Set<Element>> made = new LinkedHashMap<>();
        private Element from;

        private Calls(JavacTask task) {
            this.task = task;
            this.trees = Trees.instance(task);
        }

        @Override
        public Void visitMethod(MethodTree node, Void none) {
            Element before = from;
            from = trees.getElement(getCurrentPath());
            made.computeIfAbsent(from, method -> new LinkedHashSet<>());
            super.visitMethod(node, none);
            from = before;
            return null;
        }

        @Override
        public Void visitMethodInvocation(MethodInvocationTree node, Void none) {
            Element called = trees.getElement(new TreePath(getCurrentPath(), node.getMethodSelect()));
            if (called == null) {
                holds(false, "it can be seen what is called by " + node);
            } else if (isOwn(called)) {
                add(called);
            } else if (!called.getSimpleName().contentEquals("<init>")) {
                libraryCall(called);
            }
            return super.visitMethodInvocation(node, none);
        }

        @Override
        public Void visitNewClass(NewClassTree node, Void none) {
            Element maker = trees.getElement(getCurrentPath());
            if (maker != null && isOwn(maker)) {
                add(maker);
            } else {
                String name = maker == null ? "" + node : "" + maker.getEnclosingElement().getSimpleName();
                holds(MADE_OF_THE_LIBRARY.contains(name), "rule 4: new " + name);
            }
            return super.visitNewClass(node, none);
        }

        @Override
        public Void visitForLoop(ForLoopTree node, Void none) {
            holds(node.getCondition() != null && !isAlwaysSo(node.getCondition()), "rule 9: an end of " + node);
            return super.visitForLoop(node, none);
        }

        @Override
        public Void visitWhileLoop(WhileLoopTree node, Void none) {
            holds(!isAlwaysSo(node.getCondition()), "rule 9: an end of " + node);
            return super.visitWhileLoop(node, none);
        }

        @Override
        public Void visitDoWhileLoop(DoWhileLoopTree node, Void none) {
            holds(!isAlwaysSo(node.getCondition()), "rule 9: an end of " + node);
            return super.visitDoWhileLoop(node, none);
        }

        private static boolean isAlwaysSo(ExpressionTree condition) {
            ExpressionTree inner = condition;
            while (inner instanceof ParenthesizedTree) {
                inner = ((ParenthesizedTree) inner).getExpression();
            }
            return inner instanceof LiteralTree;
        }

        private static boolean isOwn(Element method) {
            Element owner = method.getEnclosingElement();
            return owner instanceof TypeElement
                && ((TypeElement) owner).getQualifiedName().toString().matches("DebtRooms(\\..*)?");
        }

        /** A call of a field's initialiser is made by each constructor; it is no part of any chain here. */
        private void add(Element called) {
            if (from != null) {
                made.get(from).add(called);
            }
        }

        private static void libraryCall(Element called) {
            String owner = called.getEnclosingElement().getSimpleName().toString();
            String name = owner + "." + called.getSimpleName();
            boolean isNumbers = owner.equals("Integer") || owner.equals("Long") || owner.equals("Math");
            boolean isExact = name.endsWith("Exact");
            boolean isStatic = called.getModifiers().contains(javax.lang.model.element.Modifier.STATIC);
            holds(isNumbers ? isStatic && !isExact : LIBRARY.contains(name), "rule 4: " + name);
        }

        /** Rules 8 and 11: how deep the calls go, and who calls himself. */
        private void depths() {
            for (Element method : made.keySet()) {
                Deque<Element> open = new ArrayDeque<>();
                holds(deepest(method, open) <= MOST_DEEP, "rule 11: at most eight deep from " + method);
                boolean isRecursive = made.get(method).contains(method);
                holds(!isRecursive || method.getModifiers().contains(javax.lang.model.element.Modifier.PRIVATE),
                    "rule 8: private, as it calls itself: " + method);
            }
        }

        private int deepest(Element method, Deque<Element> open) {
            if (open.contains(method) || !made.containsKey(method)) {
                return 0;
            }
            open.push(method);
            int most = 0;
            for (Element called : made.get(method)) {
                most = Math.max(most, deepest(called, open));
                for (Element other : made.keySet()) {
                    if (other != called && overrides(other, called)) {
                        most = Math.max(most, deepest(other, open));
                    }
                }
            }
            open.pop();
            return most + 1;
        }

        private boolean overrides(Element one, Element other) {
            return one instanceof ExecutableElement && other instanceof ExecutableElement
                && task.getElements().overrides((ExecutableElement) one, (ExecutableElement) other,
                    (TypeElement) one.getEnclosingElement());
        }
    }

    // ---- the room of a run

    private static final String LARGE = "6;01o,01o,01o,01o,01o,01o;b00,b01,h00,d00;0109,1009,0109,1009";

    /** The dearest calls, as often as an object may be called. */
    private static void room() {
        com.sun.management.ThreadMXBean thread = (com.sun.management.ThreadMXBean) ManagementFactory.getThreadMXBean();
        for (int call = 0; call < 6; call++) {
            long before = thread.getCurrentThreadAllocatedBytes();
            long answers = dearest(call);
            long bytes = thread.getCurrentThreadAllocatedBytes() - before;
            holds(bytes <= ROOM_IN_BYTES, "rule 12: a run makes little, not " + bytes + " bytes: " + call + ", " + answers);
        }
    }

    private static long dearest(int call) {
        DebtRooms x = new DebtRooms();
        write(x);
        x.house();
        long answers = 0;
        for (int many = LARGE.length() + 1; many < 512; many++) {
            switch (call) {
                case 0: answers += x.digest(); break;
                case 1: answers += x.night(0, 4, 0); break;
                case 2: answers += x.cancel(0, 0); break;
                case 3: answers += x.winters(60, many, 0); break;
                case 4: answers += x.met(0, 1, 3, 0); break;
                default:
                    write(x);
                    answers += x.house();
                    many += LARGE.length();
            }
        }
        return answers;
    }

    private static void write(DebtRooms x) {
        for (int at = 0; at < LARGE.length(); at++) {
            x.letter(LARGE.charAt(at));
        }
    }
}
