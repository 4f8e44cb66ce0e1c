import com.sun.source.tree.ClassTree;
import com.sun.source.tree.CompilationUnitTree;
import com.sun.source.tree.MethodInvocationTree;
import com.sun.source.tree.MethodTree;
import com.sun.source.tree.NewClassTree;
import com.sun.source.util.JavacTask;
import com.sun.source.util.TreePathScanner;
import com.sun.source.util.Trees;
import java.lang.reflect.Constructor;
import java.lang.reflect.Field;
import java.lang.reflect.Method;
import java.lang.reflect.Modifier;
import java.nio.file.Files;
import java.nio.file.Path;
import java.util.ArrayList;
import java.util.Collections;
import java.util.LinkedHashSet;
import java.util.List;
import java.util.Map;
import java.util.Set;
import java.util.TreeMap;
import java.util.TreeSet;
import java.util.regex.Matcher;
import java.util.regex.Pattern;
import javax.lang.model.element.Element;
import javax.tools.JavaCompiler;
import javax.tools.ToolProvider;

/** Those rules of LANGUAGE.md that can be seen from the text of the program, or from its classes. */
public final class LanguageTest {
    private static final String FACE = "row(int,int,int)int set(int,int,int)int copy(int,int,int,int,int)int "
            + "drop(int)int feed(int)int system()int fault()int lay(int,int,int)int cut(int)int turn(int)int "
            + "become(int,int)int undo()int arc(int,int)int moves(int,int,int)int block(int,int)int "
            + "parts(int,int)int behind(int,int,int)int signs(int,int)long parted(int,int,int)int "
            + "tells(int,int,int,int)int depth(int,int,int)int holds(int,int,int,int)int small(int,int,int)int "
            + "arcs(int)int words(int,int)int walk(int,int,int)int fits(int,int,int,int)int image(int)int "
            + "restore(int)int kind(int)int as(int,int)int ask(int,int)int trace(int)int count(int)int status()int";

    private static final String SOURCE = "src/main/java/AlikeSteps.java";
    private static final int DEEPEST = 8;
    // These guard their own depth, which they carry as an argument.
    private static final Set<String> RECURSIVE = Set.of("Asker.body(int,int)", "Steps.spelt(int[],int,int)");

    private static int wrong = 0;

    private static void check(boolean right, String what) {
        if (!right) {
            wrong++;
            System.out.println("language: " + what);
        }
    }

    public static void main(String[] args) throws Exception {
        face();
        nested();
        String text = Files.readString(Path.of(SOURCE));
        words(text);
        methods(text);
        calls();
        System.out.println("language: " + wrong + " not as due");
        if (wrong != 0) {
            System.exit(1);
        }
    }

    private static void face() {
        Class<?> face = AlikeSteps.class;
        check(Modifier.isPublic(face.getModifiers()) && Modifier.isFinal(face.getModifiers()), "public final");
        check(face.getPackageName().isEmpty(), "no package");
        Set<String> due = new TreeSet<>(List.of(FACE.split(" ")));
        Set<String> there = new TreeSet<>();
        Set<String> names = new TreeSet<>();
        for (Method m : face.getDeclaredMethods()) {
            if (Modifier.isPublic(m.getModifiers())) {
                there.add(m.getName() + "(" + parameters(m.getParameterTypes()) + ")" + m.getReturnType());
                names.add(m.getName());
                check(!Modifier.isStatic(m.getModifiers()), m + " is static");
            }
        }
        check(due.equals(there), "the methods of the face: " + there);
        for (Method m : face.getDeclaredMethods()) {
            boolean open = Modifier.isPublic(m.getModifiers());
            check(open || Modifier.isPrivate(m.getModifiers()), m + " is seen");
            check(open || !names.contains(m.getName()), m + " bears a public name");
        }
        Constructor<?>[] constructors = face.getDeclaredConstructors();
        check(constructors.length == 1 && constructors[0].getParameterCount() == 0
                && Modifier.isPublic(constructors[0].getModifiers()), "the constructor");
        Set<String> constants = new TreeSet<>();
        for (Field f : face.getDeclaredFields()) {
            if (!Modifier.isPrivate(f.getModifiers())) {
                constants.add(f.getName());
            }
        }
        check(constants.equals(Set.of("NONE", "BAD", "STATE", "FULL")), "the constants: " + constants);
    }

    private static String parameters(Class<?>[] types) {
        StringBuilder out = new StringBuilder();
        for (Class<?> type : types) {
            out.append(out.length() == 0 ? "" : ",").append(type);
        }
        return out.toString();
    }

    private static void nested() {
        List<Class<?>> all = new ArrayList<>(List.of(AlikeSteps.class.getDeclaredClasses()));
        for (Class<?> c : all) {
            check(Modifier.isStatic(c.getModifiers()) && !Modifier.isPublic(c.getModifiers())
                    && !Modifier.isProtected(c.getModifiers()), c + " is not static, or seen");
        }
        all.add(AlikeSteps.class);
        check(all.size() <= 12, "too many classes: " + all.size());
        for (Class<?> c : all) {
            int fields = 0;
            for (Field f : c.getDeclaredFields()) {
                boolean isStatic = Modifier.isStatic(f.getModifiers());
                fields += isStatic ? 0 : 1;
                check(!isStatic || Modifier.isFinal(f.getModifiers()), f + " is static and not final");
            }
            check(fields <= 20, c + " has many fields: " + fields);
            for (Method m : c.getDeclaredMethods()) {
                check(!Modifier.isPrivate(m.getModifiers()) || !(" " + FACE).contains(" " + m.getName() + "("),
                        m + " bears a public name");
                check(m.getParameterCount() <= 7, m + " has many parameters");
                check(!Set.of("equals", "hashCode", "toString").contains(m.getName()), m + " is not to be there");
            }
        }
    }

    private static void words(String text) {
        String code = text.replaceAll("(?s)/\\*.*?\\*/", " ").replaceAll("//[^\n]*", " ")
                .replaceAll("'(\\\\.|[^'\\\\])'", "0").replaceAll("\"(\\\\.|[^\"\\\\])*\"", "TEXT");
        String[] never = {"throw", "throws", "try", "catch", "finally", "synchronized", "assert", "import",
            "package", "volatile", "native", "var", "float", "double", "Object", "Exception", "Error", "Thread"};
        for (String word : never) {
            check(!Pattern.compile("\\b" + word + "\\b").matcher(code).find(), "the word " + word);
        }
        check(!code.contains("->") && !code.contains("::"), "a lambda, a method reference or a switch of arrows");
        check(!Pattern.compile("static\\s*\\{").matcher(code).find(), "a static block");
        Set<String> library = Set.of("arraycopy", "bitCount", "min", "max");
        Matcher uses = Pattern.compile("\\b(System|Math|Integer|Long|Arrays|Character)\\.(\\w+)").matcher(code);
        while (uses.find()) {
            check(library.contains(uses.group(2)), "the library's " + uses.group());
        }
        for (int i = 0; i < text.length(); i++) {
            check(text.charAt(i) < 128, "a sign that is none of the first 128 at " + i);
        }
    }

    /** Nothing is made but by constructors and fields, and methods are short. */
    private static void methods(String text) {
        String[] lines = text.split("\n");
        int begun = -1;
        String end = "";
        for (int i = 0; i < lines.length; i++) {
            String line = lines[i];
            Matcher head = Pattern.compile("^( {4}| {8})(\\w[\\w\\[\\] ]* )?(\\w+)\\([^;]*\\{$").matcher(line);
            if (begun < 0 && head.find()) {
                begun = i;
                end = head.group(1) + "}";
            } else if (begun >= 0 && line.equals(end)) {
                check(i - begun < 60, "a long method at line " + (begun + 1));
                String method = String.join("\n", List.of(lines).subList(begun, i));
                boolean constructor = method.matches("(?s) *(public )?[A-Z]\\w*\\(.*");
                check(constructor || !method.contains("new "), "something is made at line " + (begun + 1));
                begun = -1;
            }
        }
    }

    /** Which of the program's own methods call which; constructors, and those of the library, too. */
    private static Map<String, Set<String>> callGraph() throws Exception {
        JavaCompiler compiler = ToolProvider.getSystemJavaCompiler();
        JavacTask task = (JavacTask) compiler.getTask(null, null, null, List.of("-proc:none"), null,
                compiler.getStandardFileManager(null, null, null).getJavaFileObjects(SOURCE));
        Iterable<? extends CompilationUnitTree> units = task.parse();
        task.analyze();
        Trees trees = Trees.instance(task);
        Map<String, Set<String>> graph = new TreeMap<>();
        for (CompilationUnitTree unit : units) {
            new TreePathScanner<Void, String>() {
                @Override
                public Void visitClass(ClassTree tree, String in) {
                    // What fields begin with is made by the constructor.
                    String name = tree.getSimpleName().toString();
                    return super.visitClass(tree, name + "." + name);
                }

                @Override
                public Void visitMethod(MethodTree tree, String in) {
                    Element method = trees.getElement(getCurrentPath());
                    graph.computeIfAbsent(nameOf(method), k -> new LinkedHashSet<>());
                    return super.visitMethod(tree, nameOf(method));
                }

                @Override
                public Void visitMethodInvocation(MethodInvocationTree tree, String in) {
                    note(in);
                    return super.visitMethodInvocation(tree, in);
                }

                @Override
                public Void visitNewClass(NewClassTree tree, String in) {
                    note(in);
                    return super.visitNewClass(tree, in);
                }

                private void note(String in) {
                    graph.computeIfAbsent(in, k -> new LinkedHashSet<>())
                            .add(nameOf(trees.getElement(getCurrentPath())));
                }
            }.scan(unit, "");
        }
        return graph;
    }

    private static String nameOf(Element method) {
        String owner = method.getEnclosingElement().getSimpleName().toString();
        String name = method.toString();
        // All constructors of a class, and what its fields begin with, as one.
        return owner + "." + (name.startsWith(owner + "(") ? owner : name);
    }

    private static void calls() throws Exception {
        Map<String, Set<String>> graph = callGraph();
        check(graph.containsKey("AlikeSteps.status()"), "the calls were not found");
        List<String> longest = new ArrayList<>();
        for (String method : graph.keySet()) {
            List<String> way = way(graph, method, new ArrayList<>());
            longest = way.size() > longest.size() ? way : longest;
        }
        check(longest.size() <= DEEPEST, "calls go " + longest.size() + " deep: " + longest);
    }

    /** The longest way of calls from a method on; those that call themselves must be known. */
    private static List<String> way(Map<String, Set<String>> graph, String method, List<String> open) {
        List<String> longest = new ArrayList<>();
        open.add(method);
        for (String next : graph.getOrDefault(method, Collections.emptySet())) {
            if (open.contains(next)) {
                check(next.equals(method) && RECURSIVE.contains(next), method + " calls " + next + " again");
                continue;
            }
            List<String> way = way(graph, next, open);
            longest = way.size() > longest.size() ? way : longest;
        }
        open.remove(open.size() - 1);
        longest = new ArrayList<>(longest);
        longest.add(0, method);
        return longest;
    }
}
