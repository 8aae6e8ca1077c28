import java.io.IOException;
import java.lang.reflect.Constructor;
import java.lang.reflect.Field;
import java.lang.reflect.Member;
import java.lang.reflect.Method;
import java.lang.reflect.Modifier;
import java.nio.file.Files;
import java.nio.file.Path;
import java.util.ArrayList;
import java.util.List;
import java.util.Set;
import java.util.TreeSet;
import java.util.regex.Matcher;
import java.util.regex.Pattern;
import support.Checks;

/** What of ../shared/LANGUAGE.md, and of the face in ../shared/DOC.md, can be seen without running the class. */
public final class LanguageTest {
    private static final Checks CHECKS = new Checks();
    private static final Path SOURCE = Path.of("src/main/java/Ropeloft.java");
    private static final Path DOCUMENT = Path.of("../shared/DOC.md");

    public static void main(String[] args) throws IOException {
        face();
        nestedClasses();
        source();
        CHECKS.end();
    }

    private static void face() throws IOException {
        CHECKS.begin("the face");
        String document = Files.readString(DOCUMENT);
        int begin = document.indexOf("```java") + 7;
        CHECKS.dueText("members", faceOfClass().toString(),
            faceOfDocument(document.substring(begin, document.indexOf("```", begin))).toString());
        CHECKS.due("public and final", Ropeloft.class.getModifiers(), Modifier.PUBLIC | Modifier.FINAL);
    }

    private static Set<String> faceOfDocument(String block) {
        Set<String> face = new TreeSet<>();
        for (String line : block.split("\n")) {
            String told = line.strip().replaceAll("^public |;$", "");
            if (told.startsWith("static final int ")) {
                for (String constant : told.substring(17).split(", ")) {
                    face.add(constant);
                }
            } else if (told.contains("(")) {
                face.add(told.replaceAll("(int|long|boolean) \\w+(?=[,)])", "$1"));
            }
        }
        return face;
    }

    private static Set<String> faceOfClass() {
        Set<String> face = new TreeSet<>();
        for (Method method : Ropeloft.class.getDeclaredMethods()) {
            if (isOpen(method)) {
                CHECKS.due(method.getName() + " is public and no more", method.getModifiers(), Modifier.PUBLIC);
                face.add(method.getReturnType().getSimpleName() + " " + method.getName()
                    + list("(", method.getParameterTypes(), ")") + thrown(method.getExceptionTypes()));
            }
        }
        for (Constructor<?> constructor : Ropeloft.class.getDeclaredConstructors()) {
            if (isOpen(constructor)) {
                face.add("Ropeloft" + list("(", constructor.getParameterTypes(), ")"));
            }
        }
        for (Field field : Ropeloft.class.getDeclaredFields()) {
            if (isOpen(field)) {
                face.add(field.getName() + " = " + valueOf(field));
            }
        }
        return face;
    }

    private static boolean isOpen(Member member) {
        return !Modifier.isPrivate(member.getModifiers()) && !member.isSynthetic();
    }

    private static String list(String before, Class<?>[] types, String behind) {
        List<String> names = new ArrayList<>();
        for (Class<?> type : types) {
            names.add(type.getSimpleName());
        }
        return before + String.join(", ", names) + behind;
    }

    private static String thrown(Class<?>[] types) {
        return types.length == 0 ? "" : list(" throws ", types, "");
    }

    private static int valueOf(Field field) {
        try {
            return field.getInt(null);
        } catch (IllegalAccessException e) {
            throw new IllegalStateException(e);
        }
    }

    private static void nestedClasses() {
        CHECKS.begin("rules 1, 2, 5 and 11");
        Set<String> open = new TreeSet<>();
        for (Method method : Ropeloft.class.getDeclaredMethods()) {
            if (isOpen(method)) {
                open.add(method.getName());
            }
        }
        Class<?>[] nested = Ropeloft.class.getDeclaredClasses();
        CHECKS.due("twelve classes at most", Math.max(nested.length, 11), 11);
        looksFine(Ropeloft.class, open);
        for (Class<?> one : nested) {
            CHECKS.due(one + " is static", one.getModifiers() & Modifier.STATIC, Modifier.STATIC);
            CHECKS.due(one + " is private", one.getModifiers() & Modifier.PRIVATE, Modifier.PRIVATE);
            looksFine(one, open);
        }
    }

    private static void looksFine(Class<?> one, Set<String> open) {
        int own = 0;
        for (Field field : one.getDeclaredFields()) {
            if (Modifier.isStatic(field.getModifiers())) {
                CHECKS.due(field + " is final", field.getModifiers() & Modifier.FINAL, Modifier.FINAL);
            } else {
                own++;
            }
        }
        CHECKS.due(one + ": twenty fields at most", Math.max(own, 20), 20);
        for (Method method : one.getDeclaredMethods()) {
            CHECKS.due(method + ": seven parameters at most", Math.max(method.getParameterCount(), 7), 7);
            boolean isOfTheFace = one == Ropeloft.class && isOpen(method);
            boolean isNameTaken = !isOfTheFace && open.contains(method.getName());
            CHECKS.due(method + " bears a public name", isNameTaken ? 1 : 0, 0);
        }
    }

    private static void source() throws IOException {
        CHECKS.begin("rules 3 to 13");
        String text = Files.readString(SOURCE);
        String code = text.replaceAll("(?s)/\\*.*?\\*/", "").replaceAll("//[^\n]*", "");
        String bare = code.replaceAll("\"[^\"]*\"", "\"\"");
        for (char sign : text.toCharArray()) {
            CHECKS.due("sign " + sign, sign < 128 ? 1 : 0, 1);
        }
        String[] never = {"->", "::", "\\btry\\b", "\\bcatch\\b", "\\bfinally\\b", "\\bassert\\b", "\\bsynchronized\\b",
            "\\bpackage\\b", "\\bstatic \\{", "\" \\+", "\\+ \"", "\\bequals\\b", "\\bhashCode\\b", "\\btoString\\b",
            "\\w+Exact\\b", "\\bSystem\\b", "\\bThread\\b", "\\bRandom\\b", "\\bvar\\b", "\\bdouble\\b", "\\bfloat\\b",
            "\\[\\]\\[\\]", "@\\w+", "\\bprotected\\b"};
        for (String sign : never) {
            CHECKS.dueText("found " + sign, found(sign, bare), "");
        }
        CHECKS.dueText("imports", found("import [^;]*;", bare), "import java.util.Arrays;");
        for (String thrown : found("throw [^;]*;", code).split("(?<=;)")) {
            CHECKS.due(thrown, thrown.matches("throw new (IndexOutOfBounds|IllegalArgument|IllegalState)"
                + "Exception\\(\"[^\"]*\"\\);") ? 1 : 0, 1);
        }
        methodsAreShort(text);
    }

    private static String found(String sign, String text) {
        StringBuilder all = new StringBuilder();
        Matcher matcher = Pattern.compile(sign).matcher(text);
        while (matcher.find()) {
            all.append(matcher.group());
        }
        return all.toString();
    }

    /** A method begins at a line with a head and ends at the next closing brace that stands as far in. */
    private static void methodsAreShort(String text) {
        String[] lines = text.split("\n");
        for (int i = 0; i < lines.length; i++) {
            Matcher head = Pattern.compile("^( {4}| {8})(?!.*\\bclass\\b)\\w.*\\{$").matcher(lines[i]);
            if (head.find() && lines[i].contains("(")) {
                int end = i;
                while (!lines[end].equals(head.group(1) + "}")) {
                    end++;
                }
                CHECKS.due("lines of " + lines[i].strip(), Math.max(end - i + 1, 60), 60);
            }
        }
    }
}
