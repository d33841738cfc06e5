import java.lang.reflect.Field;
import java.lang.reflect.Method;
import java.lang.reflect.Modifier;
import java.nio.file.Files;
import java.nio.file.Path;
import java.util.ArrayList;
import java.util.List;
import java.util.Set;
import java.util.TreeSet;
import java.util.regex.Matcher;
import java.util.regex.Pattern;

/** The rules of LANGUAGE.md that can be seen from the source or from the class, and the document's face. */
public final class LanguageTest {
    private static final Checks CHECKS = new Checks("LanguageTest");

    private static final String FACE = """
        int about(int,int)
        int anew()
        int argument(int,int,int)
        int block()
        int cheapest(int,int)
        int clear()
        int cost(int)
        int dearest()
        long digest()
        int draw(int,int,int)
        int edge(int,int,int)
        int free(int,int)
        int given(int,int)
        int machine(int)
        int of(int,int)
        int parameter(int,int)
        int reach(int,int)
        int read()
        int region(int,int)
        int rings(int,int)
        long run(int,int,int)
        int step(int,int,int)
        int steps(int,int)
        int tail(int)
        int told(int)
        int type(int)
        int weight(int,int)
        int whole(int)
        """;

    public static void main(String[] args) throws Exception {
        String source = Files.readString(Path.of("src/main/java/EdgeMoves.java"));
        holds("signs are 1 to 127", source.chars().allMatch(c -> c > 0 && c < 128));
        String code = source.replaceAll("(?s)/\\*.*?\\*/", "").replaceAll("//[^\n]*", "");
        forbiddenWords(code);
        libraryUsed(code);
        methodLengths(code);
        face();
        members();
        CHECKS.end();
    }

    private static void holds(String what, boolean is) {
        CHECKS.holds(what, is);
    }

    private static void forbiddenWords(String code) {
        String[] words = {"throw", "throws", "try", "catch", "synchronized", "assert", "package", "volatile", "transient",
            "native", "instanceof", "equals", "hashCode", "toString", "double", "float", "Object", "Exception"};
        for (String word : words) {
            holds("no " + word, !Pattern.compile("\\b" + word + "\\b").matcher(code).find());
        }
        for (String sign : new String[] {"->", "::", "@", "static {", "Exact", "\""}) {
            holds("no " + sign, !code.contains(sign));
        }
    }

    private static void libraryUsed(String code) {
        Set<String> own = new TreeSet<>(Set.of("Math", "System", "Arrays"));
        Matcher classes = Pattern.compile("class (\\w+)").matcher(code);
        while (classes.find()) {
            own.add(classes.group(1));
        }
        Matcher used = Pattern.compile("\\b([A-Z][a-z]\\w*)\\b").matcher(code);
        while (used.find()) {
            holds("known: " + used.group(1), own.contains(used.group(1)));
        }
        Matcher calls = Pattern.compile("\\b((?:Math|System|Arrays)\\.\\w+)").matcher(code);
        Set<String> allowed = Set.of("Math.min", "Math.max", "System.arraycopy", "Arrays.fill");
        while (calls.find()) {
            holds("allowed: " + calls.group(1), allowed.contains(calls.group(1)));
        }
        Matcher imports = Pattern.compile("import ([\\w.]+);").matcher(code);
        while (imports.find()) {
            holds("import " + imports.group(1), imports.group(1).equals("java.util.Arrays"));
        }
    }

    private static void methodLengths(String code) {
        Matcher methods = Pattern.compile("(?m)^( +)[\\w\\[\\] ]+\\([\\w\\[\\], ]*\\) \\{\n(?s:.*?)^\\1\\}").matcher(code);
        int found = 0;
        while (methods.find()) {
            found++;
            holds("short: " + methods.group().lines().findFirst().orElse(""), methods.group().lines().count() <= 60);
        }
        holds("methods found", found > 100);
    }

    private static void face() {
        Set<String> methods = new TreeSet<>();
        for (Method method : EdgeMoves.class.getDeclaredMethods()) {
            if (Modifier.isPublic(method.getModifiers())) {
                List<String> types = new ArrayList<>();
                for (Class<?> type : method.getParameterTypes()) {
                    types.add(type.getName());
                }
                methods.add(method.getReturnType() + " " + method.getName() + "(" + String.join(",", types) + ")");
            }
        }
        holds("the face's methods: " + methods, methods.equals(new TreeSet<>(FACE.lines().toList())));
        Set<String> constants = new TreeSet<>();
        for (Field field : EdgeMoves.class.getFields()) {
            constants.add(field.getType() + " " + field.getName());
        }
        holds("the face's constants", constants.equals(Set.of("int NONE", "int BAD", "int NO", "int FULL")));
        holds("one constructor", EdgeMoves.class.getDeclaredConstructors().length == 1);
        holds("it is public", EdgeMoves.class.getConstructors().length == 1);
        holds("a public final class", (EdgeMoves.class.getModifiers() & (Modifier.PUBLIC | Modifier.FINAL))
            == (Modifier.PUBLIC | Modifier.FINAL));
    }

    private static void members() {
        Set<String> publicNames = new TreeSet<>();
        for (Method method : EdgeMoves.class.getMethods()) {
            publicNames.add(method.getName());
        }
        List<Class<?>> all = new ArrayList<>(List.of(EdgeMoves.class.getDeclaredClasses()));
        for (Class<?> inner : all) {
            holds("static: " + inner, Modifier.isStatic(inner.getModifiers()));
            holds("not public: " + inner, !Modifier.isPublic(inner.getModifiers()));
            holds("no class inside: " + inner, inner.getDeclaredClasses().length == 0);
        }
        all.add(EdgeMoves.class);
        holds("some twelve classes", all.size() <= 12);
        for (Class<?> each : all) {
            fieldsOf(each);
            for (Method method : each.getDeclaredMethods()) {
                int modifiers = method.getModifiers();
                boolean isFace = each == EdgeMoves.class && Modifier.isPublic(modifiers);
                holds("no second " + method, isFace || !publicNames.contains(method.getName()));
                holds("private: " + method, each != EdgeMoves.class || isFace || Modifier.isPrivate(modifiers));
                holds("seven parameters: " + method, method.getParameterCount() <= 7);
            }
        }
    }

    private static void fieldsOf(Class<?> each) {
        int own = 0;
        for (Field field : each.getDeclaredFields()) {
            int modifiers = field.getModifiers();
            holds("final: " + field, !Modifier.isStatic(modifiers) || Modifier.isFinal(modifiers));
            boolean isConstant = Modifier.isPublic(modifiers) && Modifier.isStatic(modifiers);
            holds("private: " + field, each != EdgeMoves.class || isConstant || Modifier.isPrivate(modifiers));
            own += Modifier.isStatic(modifiers) ? 0 : 1;
        }
        holds("some twenty fields: " + each, own <= 20);
    }
}
