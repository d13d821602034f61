import java.io.IOException;
import java.lang.reflect.Constructor;
import java.lang.reflect.Field;
import java.lang.reflect.Method;
import java.lang.reflect.Modifier;
import java.nio.file.Files;
import java.nio.file.Path;
import java.util.List;
import java.util.Set;
import java.util.TreeSet;
import java.util.regex.Matcher;
import java.util.regex.Pattern;
import java.util.stream.Collectors;

/** Checks the public face against the document, and the rules of LANGUAGE.md that can be read off the source. */
public final class LanguageTests {
    private static int wrong = 0;

    public static void main(String[] args) throws IOException {
        Path project = Path.of(System.getProperty("project", "."));
        String document = Files.readString(project.resolve("../shared/DOC.md"));
        String source = Files.readString(project.resolve("src/main/java/WeightedForest.java"));
        checkFace(document);
        checkClasses();
        checkWords(source);
        checkSizes(source);
        System.out.println(wrong == 0 ? "the face and the rules are kept" : wrong + " faults");
        if (wrong != 0) {
            System.exit(1);
        }
    }

    private static void checkFace(String document) {
        Set<String> wanted = new TreeSet<>();
        int from = document.indexOf("```java");
        for (String line : document.substring(from, document.indexOf("```", from + 3)).split("\n")) {
            String text = line.trim();
            if (text.startsWith("public") && text.endsWith(";")) {
                wanted.add(text.replaceAll("(int|long) \\w+(?=[,)])", "$1").replace(";", ""));
            }
        }
        Set<String> found = new TreeSet<>();
        for (Field field : WeightedForest.class.getDeclaredFields()) {
            if (!Modifier.isPrivate(field.getModifiers())) {
                found.add(Modifier.toString(field.getModifiers()) + " " + field.getType() + " " + field.getName() + " = " + valueOf(field));
            }
        }
        for (Constructor<?> made : WeightedForest.class.getDeclaredConstructors()) {
            found.add(Modifier.toString(made.getModifiers()) + " WeightedForest(" + types(made.getParameterTypes()) + ")");
        }
        for (Method method : WeightedForest.class.getDeclaredMethods()) {
            if (!Modifier.isPrivate(method.getModifiers())) {
                found.add(Modifier.toString(method.getModifiers()) + " " + method.getReturnType() + " " + method.getName()
                    + "(" + types(method.getParameterTypes()) + ")");
            }
        }
        check(wanted.size() == 38, "the document's face was read as " + wanted);
        check(wanted.equals(found), "the face is " + found + ", the document's is " + wanted);
    }

    private static Object valueOf(Field field) {
        try {
            return field.get(null);
        } catch (IllegalAccessException e) {
            return e;
        }
    }

    private static String types(Class<?>[] types) {
        return List.of(types).stream().map(Class::getSimpleName).collect(Collectors.joining(", "));
    }

    private static void checkClasses() {
        int classes = 1 + WeightedForest.class.getDeclaredClasses().length;
        check(classes <= 12, classes + " classes");
        checkFields(WeightedForest.class);
        Set<String> face = new TreeSet<>();
        for (Method method : WeightedForest.class.getMethods()) {
            face.add(method.getName());
        }
        for (Class<?> inside : WeightedForest.class.getDeclaredClasses()) {
            check(Modifier.isStatic(inside.getModifiers()), inside + " is not static");
            checkFields(inside);
            for (Method method : inside.getDeclaredMethods()) {
                check(!face.contains(method.getName()), "a name of the face in " + method);
            }
        }
        for (Method method : WeightedForest.class.getDeclaredMethods()) {
            boolean open = Modifier.isPublic(method.getModifiers());
            check(open || !face.contains(method.getName()), "a name of the face at " + method);
            check(method.getParameterCount() <= 7, "more than seven parameters of " + method);
        }
    }

    private static void checkFields(Class<?> one) {
        int fields = 0;
        for (Field field : one.getDeclaredFields()) {
            boolean isStatic = Modifier.isStatic(field.getModifiers());
            check(!isStatic || Modifier.isFinal(field.getModifiers()), "static and not final: " + field);
            fields += isStatic ? 0 : 1;
        }
        check(fields <= 20, fields + " fields in " + one);
    }

    private static void checkWords(String source) {
        check(source.chars().allMatch(sign -> sign == '\n' || sign >= 32 && sign < 127), "a sign that is not plain ASCII");
        String code = source.replaceAll("//[^\n]*|(?s:/\\*.*?\\*/)", " ").replaceAll("'.'", "' '");
        for (String word : List.of("throw", "throws", "try", "catch", "synchronized", "assert", "package", "native", "volatile",
            "Object", "Random", "Thread", "Runtime", "hashCode", "equals", "toString", "float", "double")) {
            check(!Pattern.compile("\\b" + word + "\\b").matcher(code).find(), "the word " + word);
        }
        check(!code.contains("->") && !code.contains("::"), "a lambda or a method reference");
        check(!code.contains("Exact("), "a function whose name ends in Exact");
        Matcher imported = Pattern.compile("\\bimport\\s+([\\w.*]+)").matcher(code);
        while (imported.find()) {
            check(Set.of("java.util.Arrays", "java.util.List", "java.util.ArrayList", "java.util.Iterator").contains(imported.group(1)),
                "the import " + imported.group(1));
        }
        Matcher library = Pattern.compile("\\b(System|Math|Arrays|Integer|Long)\\.(\\w+)").matcher(code);
        while (library.find()) {
            check(Set.of("System.arraycopy", "Math.max", "Math.min", "Math.abs", "Arrays.fill", "Arrays.copyOf").contains(library.group()),
                "the library's " + library.group());
        }
    }

    /** A method begins at a line with a brace at its end, four or eight blanks in, and ends at the brace below its first letter. */
    private static void checkSizes(String source) {
        Matcher method = Pattern.compile("(?m)^( {4}| {8})(?! )[^\n;=]*\\) \\{$").matcher(source);
        int methods = 0;
        while (method.find()) {
            int end = source.indexOf("\n" + method.group(1) + "}", method.start());
            long lines = source.substring(method.start(), Math.max(method.start(), end)).lines().count();
            check(end > 0 && lines <= 60, lines + " lines of " + method.group().trim());
            methods++;
        }
        check(methods >= 60, "only " + methods + " methods were found");
    }

    private static void check(boolean kept, String fault) {
        if (!kept) {
            wrong++;
            System.out.println(fault);
        }
    }
}
