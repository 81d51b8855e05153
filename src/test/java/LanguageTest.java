import java.lang.reflect.Constructor;
import java.lang.reflect.Field;
import java.lang.reflect.Method;
import java.lang.reflect.Modifier;
import java.nio.file.Files;
import java.nio.file.Path;
import java.util.ArrayList;
import java.util.HashSet;
import java.util.List;
import java.util.Set;
import java.util.regex.Matcher;
import java.util.regex.Pattern;

/** The rules of ../shared/LANGUAGE.md, as far as they can be seen from the file's words and the classes' members. */
public final class LanguageTest {
    private static final Set<String> LIBRARY = Set.of("Math.min", "Math.max", "System.arraycopy");
    private static final String[] FORBIDDEN = {"throw", "throws", "try", "catch", "finally", "synchronized", "assert", "import",
        "package", "protected", "volatile", "transient", "native", "Object", "Thread", "Exact", "double", "float", "var", "instanceof"};

    public static void main(String[] args) throws Exception {
        String source = words(Files.readString(Path.of("src/main/java/FrozenVolume.java")));
        List<Class<?>> classes = new ArrayList<>(List.of(FrozenVolume.class.getDeclaredClasses()));
        for (Class<?> inside : classes) {
            CheckKit.due("rule 1, 2: " + inside, inside.getModifiers(), Modifier.PRIVATE | Modifier.STATIC | Modifier.FINAL);
            CheckKit.due("rule 2: classes in " + inside, inside.getDeclaredClasses().length, 0);
        }
        classes.add(FrozenVolume.class);
        CheckKit.due("rule 11: classes " + classes.size(), classes.size() <= 12 ? 1 : 0, 1);
        names(classes);
        library(source, classes);
        forbidden(source);
        fields(classes);
        parameters(classes);
        methodsStayShort(source);
        noRecursion(source);
        CheckKit.finish("LanguageTest");
    }

    /** Without comments; the program has no texts. */
    private static String words(String source) {
        String words = source.replaceAll("(?s)/\\*.*?\\*/", "").replaceAll("//[^\n]*", "");
        CheckKit.due("rule 3: texts and characters", words.indexOf('"') + words.indexOf('\''), -2);
        return words;
    }

    private static void names(List<Class<?>> classes) {
        Set<String> open = new HashSet<>();
        for (Method method : FrozenVolume.class.getDeclaredMethods()) {
            if (Modifier.isPublic(method.getModifiers())) {
                open.add(method.getName());
            }
        }
        for (Class<?> one : classes) {
            for (Method method : one.getDeclaredMethods()) {
                boolean told = one == FrozenVolume.class && Modifier.isPublic(method.getModifiers());
                CheckKit.due("rule 1: the name of " + method, open.contains(method.getName()) == told ? 1 : 0, 1);
                CheckKit.due("rule 2: no lambda, " + method, method.isSynthetic() ? 1 : 0, 0);
            }
        }
    }

    private static void library(String source, List<Class<?>> classes) {
        Set<String> own = new HashSet<>();
        for (Class<?> one : classes) {
            own.add(one.getSimpleName());
        }
        for (Matcher use = Pattern.compile("\\b([A-Z][a-z]\\w*)\\.(\\w+)").matcher(source); use.find(); ) {
            CheckKit.due("rule 4: " + use.group(), own.contains(use.group(1)) || LIBRARY.contains(use.group()) ? 1 : 0, 1);
        }
        for (Matcher type = Pattern.compile("\\b([A-Z][a-z]\\w*)\\b").matcher(source); type.find(); ) {
            boolean known = own.contains(type.group()) || type.group().equals("Math") || type.group().equals("System");
            CheckKit.due("rule 3: " + type.group(), known ? 1 : 0, 1);
        }
    }

    private static void forbidden(String source) {
        for (String word : FORBIDDEN) {
            CheckKit.due("rules 2 to 6: " + word, Pattern.compile("\\b" + word + "\\b").matcher(source).find() ? 1 : 0, 0);
        }
        CheckKit.due("rule 2: no lambda", source.contains("->") || source.contains("::") ? 1 : 0, 0);
        CheckKit.due("rule 5: no static block", Pattern.compile("static\\s*\\{").matcher(source).find() ? 1 : 0, 0);
        CheckKit.due("rule 4: one public class", source.split("public final class").length, 2);
    }

    private static void fields(List<Class<?>> classes) {
        for (Class<?> one : classes) {
            int many = 0;
            for (Field field : one.getDeclaredFields()) {
                boolean fixed = Modifier.isStatic(field.getModifiers());
                many += fixed ? 0 : 1;
                CheckKit.due("rule 5: " + field, fixed && !Modifier.isFinal(field.getModifiers()) ? 1 : 0, 0);
                boolean constant = field.getType() == int.class || field.getType() == int[].class;
                CheckKit.due("rule 5: " + field, fixed && !constant ? 1 : 0, 0);
                boolean rows = field.getType().isArray() && field.getType().getComponentType().isArray();
                CheckKit.due("rule 3: " + field, rows ? 1 : 0, 0);
            }
            CheckKit.due("rule 11: fields of " + one + ", " + many, many <= 20 ? 1 : 0, 1);
        }
    }

    private static void parameters(List<Class<?>> classes) {
        for (Class<?> one : classes) {
            for (Method method : one.getDeclaredMethods()) {
                CheckKit.due("rule 11: " + method, method.getParameterCount() <= 7 ? 1 : 0, 1);
            }
            for (Constructor<?> made : one.getDeclaredConstructors()) {
                CheckKit.due("rule 11: " + made, made.getParameterCount() <= 7 ? 1 : 0, 1);
            }
        }
    }

    /** Methods as they stand in the file: the line that they begin with, and all up to their last brace. */
    private static List<String> methods(String source) {
        List<String> methods = new ArrayList<>();
        Matcher head = Pattern.compile("(?m)^ {4,8}(?:public |private |static |final )*[\\w\\[\\]]+ (\\w+)\\([^;{]*\\) \\{\n").matcher(source);
        while (head.find()) {
            String indent = head.group().replaceAll("(?s)\\S.*", "");
            int end = source.indexOf("\n" + indent + "}\n", head.start());
            methods.add(source.substring(head.start(), end));
        }
        return methods;
    }

    private static void methodsStayShort(String source) {
        List<String> methods = methods(source);
        CheckKit.due("methods are found: " + methods.size(), methods.size() > 150 ? 1 : 0, 1);
        for (String method : methods) {
            CheckKit.due("rule 11: lines of " + method.trim().split("\n")[0], method.split("\n").length <= 60 ? 1 : 0, 1);
        }
    }

    /** No method's words have its own name before a parenthesis, but where that is another class's. */
    private static void noRecursion(String source) {
        for (String method : methods(source)) {
            Matcher head = Pattern.compile("(\\w+)\\(").matcher(method);
            if (head.find()) {
                String body = method.substring(method.indexOf("{"));
                boolean again = Pattern.compile("(?<![.\\w])" + head.group(1) + "\\(").matcher(body).find();
                CheckKit.due("rule 8: " + head.group(1) + " calls itself", again ? 1 : 0, 0);
            }
        }
    }
}
