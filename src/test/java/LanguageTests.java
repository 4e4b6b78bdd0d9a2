import com.sun.source.tree.MethodInvocationTree;
import com.sun.source.tree.MethodTree;
import com.sun.source.tree.NewArrayTree;
import com.sun.source.tree.NewClassTree;
import com.sun.source.util.JavacTask;
import com.sun.source.util.TreePathScanner;
import com.sun.source.util.Trees;
import java.lang.reflect.Constructor;
import java.lang.reflect.Field;
import java.lang.reflect.Method;
import java.lang.reflect.Modifier;
import java.nio.file.Files;
import java.nio.file.Path;
import java.util.Arrays;
import java.util.Collections;
import java.util.HashMap;
import java.util.IdentityHashMap;
import java.util.LinkedHashSet;
import java.util.List;
import java.util.Map;
import java.util.Set;
import java.util.TreeMap;
import java.util.regex.Matcher;
import java.util.regex.Pattern;
import javax.lang.model.element.Element;
import javax.tools.JavaCompiler;
import javax.tools.StandardJavaFileManager;
import javax.tools.ToolProvider;

/** The source keeps to LANGUAGE.md, as far as its text and the face of its classes tell. */
public final class LanguageTests {
    private static final Path SOURCE = Path.of("src/main/java/DripsOnBelow.java");
    private static final Set<String> MAKERS = Set.of("DripsOnBelow.DripsOnBelow()", "DripsOnBelow.Front.Front()",
            "DripsOnBelow.House.House()", "DripsOnBelow.Letters.Letters()");
    private static int wrong = 0;

    private static final List<String> FACE = List.of(
            "feed(int)int", "front()int", "flat(int,int)int", "tenant(int,int)int", "anger(int,int)int",
            "habit(int,int)int", "put(int,int)int", "saucer(int,int)int", "awning(int,int)int",
            "wash(int,int,int)int", "wind(int)int", "move(int,int)int", "rain()int", "week()int",
            "steps(int,int)int", "down(int)int", "whom(int,int)int", "does(int,int)int", "harmed(int,int)int",
            "least(int,int)int", "hours(int,int,int)int", "quiet(int,int)int", "rule()int", "hang(int)int",
            "big(int)int", "leads(int)int", "whose(int,int)int", "deal(int,int)int", "pays(int,int,int)int",
            "climbs()int", "worth(int)int", "swaps(int)int", "peg(int,int,int)long", "row(int)int",
            "judge()int", "seeds(int,int)int", "image()int", "restore()int", "count(int)int");

    private static void check(String what, boolean right) {
        if (!right) {
            wrong++;
            System.out.println("LANGUAGE: " + what);
        }
    }

    private static String told(Method m) {
        StringBuilder text = new StringBuilder(m.getName()).append('(');
        String comma = "";
        for (Class<?> c : m.getParameterTypes()) {
            text.append(comma).append(c.getName());
            comma = ",";
        }
        return text.append(')').append(m.getReturnType().getName()).toString();
    }

    private static void face() {
        Class<?> c = DripsOnBelow.class;
        check("the class is public and final",
                Modifier.isPublic(c.getModifiers()) && Modifier.isFinal(c.getModifiers()));
        Map<String, Boolean> open = new TreeMap<>();
        for (Method m : c.getDeclaredMethods()) {
            if (!Modifier.isPrivate(m.getModifiers())) {
                open.put(told(m), true);
                check("public and of the object: " + m, m.getModifiers() == Modifier.PUBLIC);
            } else {
                check("a private method with a public one's name: " + m,
                        FACE.stream().noneMatch(f -> f.startsWith(m.getName() + "(")));
            }
        }
        check("the methods of the face, found " + open.keySet(),
                open.size() == FACE.size() && open.keySet().containsAll(FACE));
        Constructor<?>[] makers = c.getDeclaredConstructors();
        check("one public constructor",
                makers.length == 1 && makers[0].getParameterCount() == 0 && Modifier.isPublic(makers[0].getModifiers()));
        for (Field f : c.getDeclaredFields()) {
            check("a field is private: " + f, Modifier.isPrivate(f.getModifiers()));
            check("a static field is final: " + f,
                    !Modifier.isStatic(f.getModifiers()) || Modifier.isFinal(f.getModifiers()));
        }
        for (Class<?> inside : c.getDeclaredClasses()) {
            int m = inside.getModifiers();
            check("inside, static, not public: " + inside,
                    Modifier.isStatic(m) && !Modifier.isPublic(m) && !Modifier.isProtected(m));
            check("some twenty fields: " + inside, inside.getDeclaredFields().length <= 20);
            for (Method own : inside.getDeclaredMethods()) {
                check("a name of the face: " + own,
                        FACE.stream().noneMatch(f -> f.startsWith(own.getName() + "(")));
                check("seven parameters: " + own, own.getParameterCount() <= 7);
            }
        }
        check("some twelve classes", c.getDeclaredClasses().length <= 11);
    }

    private static String withoutComments(String text) {
        return text.replaceAll("(?s)/\\*.*?\\*/", " ").replaceAll("//[^\n]*", " ");
    }

    private static void words(String code) {
        for (String word : List.of("throw", "throws", "try", "catch", "synchronized", "assert", "finally", "var",
                "volatile", "native", "Object", "Exception", "equals", "hashCode", "toString", "System.out", "Random",
                "Thread", "protected", "import static", "package", "null", "HashMap", "Map", "Set", "Stream")) {
            check("the word " + word,
                    !Pattern.compile("\\b" + Pattern.quote(word) + "\\b").matcher(code).find());
        }
        for (String sign : List.of("->", "::", "@", "Exact")) {
            check("the sign " + sign, !code.contains(sign));
        }
        Matcher imports = Pattern.compile("import ([\\w.]+);").matcher(code);
        while (imports.find()) {
            check("import of " + imports.group(1), imports.group(1).equals("java.util.Arrays"));
        }
        Matcher library = Pattern.compile("\\b(Arrays|System|Math|Integer|Long|String)\\.(\\w+)").matcher(code);
        List<String> may = Arrays.asList("Arrays.fill", "System.arraycopy", "Math.min", "Math.max", "Math.abs");
        while (library.find()) {
            check("library: " + library.group(), may.contains(library.group()));
        }
        for (int i = 0; i < code.length(); i++) {
            check("a sign above 127 at " + i, code.charAt(i) < 128);
        }
    }

    /** A bare index stands only in the two guarded helpers, behind a loop's bound, or at a declaration. */
    private static void indices(String code) {
        Matcher bare = Pattern.compile("\\b(\\w+)\\[(\\w[^\\]]*)\\]").matcher(code);
        while (bare.find()) {
            String text = bare.group();
            boolean isNew = bare.group(1).equals("int");
            boolean guarded = text.equals("list[i]") || text.equals("holds[i]");
            check("a bare index: " + text, isNew || guarded);
        }
    }

    private static void lengths(String text) {
        int since = -1;
        String[] lines = text.split("\n");
        for (int i = 0; i < lines.length; i++) {
            boolean begins = lines[i].matches("^( {4}| {8})(\\w[\\w\\[\\] ]*) ?\\w+\\(.*\\) \\{$");
            if (begins) {
                since = i;
            }
            if (lines[i].matches("^( {4}| {8})\\}$") && since >= 0) {
                check("a method of over 60 lines at line " + (since + 1), i - since <= 60);
                since = -1;
            }
        }
    }

    /** Who calls whom, by the compiler's own reading of the source. */
    private static Map<String, Set<String>> calls() throws Exception {
        JavaCompiler compiler = ToolProvider.getSystemJavaCompiler();
        StandardJavaFileManager files = compiler.getStandardFileManager(null, null, null);
        JavacTask task = (JavacTask) compiler.getTask(null, files, null, List.of("-proc:none"), null,
                files.getJavaFileObjects(SOURCE));
        Trees trees = Trees.instance(task);
        Map<String, Set<String>> all = new HashMap<>();
        TreePathScanner<Void, String> scanner = new TreePathScanner<>() {
            private String name() {
                Element e = trees.getElement(getCurrentPath());
                return e == null ? "" : e.getEnclosingElement() + "." + e;
            }

            @Override
            public Void visitMethod(MethodTree tree, String from) {
                all.computeIfAbsent(name(), k -> new LinkedHashSet<>());
                return super.visitMethod(tree, name());
            }

            @Override
            public Void visitMethodInvocation(MethodInvocationTree tree, String from) {
                note(from);
                return super.visitMethodInvocation(tree, from);
            }

            @Override
            public Void visitNewClass(NewClassTree tree, String from) {
                made(from);
                note(from);
                return super.visitNewClass(tree, from);
            }

            /** A run's room is small: what is made is made once, as a field or by a constructor. */
            private void made(String from) {
                check("something is made in " + from, from == null || MAKERS.contains(from));
            }

            @Override
            public Void visitNewArray(NewArrayTree tree, String from) {
                made(from);
                return super.visitNewArray(tree, from);
            }

            private void note(String from) {
                all.computeIfAbsent(from == null ? "fields" : from, k -> new LinkedHashSet<>()).add(name());
            }
        };
        var units = task.parse();
        task.analyze();
        for (var unit : units) {
            scanner.scan(unit, null);
        }
        return all;
    }

    /** How many calls stand open at most from there on; a recursion is told and goes no deeper. */
    private static int depth(String method, Map<String, Set<String>> calls, Set<String> open) {
        if (!calls.containsKey(method)) {
            return 0;
        }
        if (!open.add(method)) {
            check("a recursion at " + method, false);
            return 0;
        }
        int most = 0;
        for (String next : calls.get(method)) {
            most = Math.max(most, depth(next, calls, open));
        }
        open.remove(method);
        return most + 1;
    }

    /** Calls that are no recursion go at most eight deep; of recursions there are none. */
    private static void depths() throws Exception {
        Map<String, Set<String>> calls = calls();
        check("calls are found", calls.size() > FACE.size() && calls.containsKey("DripsOnBelow.week()"));
        for (String method : calls.keySet()) {
            int deep = depth(method, calls, new LinkedHashSet<>());
            check(method + " goes " + deep + " deep", deep <= 8);
        }
    }

    private static void count(Object o, Set<Object> objects, int[] elements) throws Exception {
        if (o == null || !objects.add(o)) {
            return;
        }
        if (o instanceof int[] row) {
            elements[0] += row.length;
            return;
        }
        for (Field f : o.getClass().getDeclaredFields()) {
            if (!Modifier.isStatic(f.getModifiers())) {
                elements[0]++;
                f.setAccessible(true);
                if (!f.getType().isPrimitive()) {
                    count(f.get(o), objects, elements);
                }
            }
        }
    }

    /** All that an object ever makes: some 600,000 objects, 7.3 million elements are one run's room. */
    private static void room() throws Exception {
        Set<Object> objects = Collections.newSetFromMap(new IdentityHashMap<>());
        int[] elements = new int[1];
        DripsOnBelow x = new DripsOnBelow();
        count(x, objects, elements);
        check("objects: " + objects.size(), objects.size() > 50 && objects.size() <= 100);
        check("elements: " + elements[0], elements[0] > 2000 && elements[0] <= 4000);
    }

    public static void main(String[] args) throws Exception {
        String text = Files.readString(SOURCE);
        String code = withoutComments(text);
        face();
        words(code);
        indices(code);
        lengths(text);
        depths();
        room();
        System.out.println(wrong == 0 ? "the language is kept" : wrong + " breaks of the language");
        if (wrong != 0) {
            System.exit(1);
        }
    }
}
