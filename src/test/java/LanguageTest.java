import java.io.IOException;
import java.lang.reflect.Executable;
import java.lang.reflect.Field;
import java.lang.reflect.Modifier;
import java.nio.charset.StandardCharsets;
import java.nio.file.Files;
import java.nio.file.Path;
import java.util.ArrayList;
import java.util.List;
import java.util.regex.Matcher;
import java.util.regex.Pattern;
import java.util.stream.Stream;

/** Words that the rules of LANGUAGE.md leave out; run from the project's folder. */
public final class LanguageTest {
    private static final Path PROGRAM = Path.of("src/main/java/Tollkeeper.java");
    private static final List<String> RULED_OUT = List.of(
        "->", "::", "\\btry\\b", "\\bcatch\\b", "\\bfinally\\b", "\\bsynchronized\\b", "\\bassert\\b",
        "\\bprotected\\b", "\\bpackage\\b", "\\bnative\\b", "\\bvolatile\\b", "\\bSystem\\.(?!arraycopy)",
        "\\bThread\\b", "\\bRandom\\b", "\\bObject\\b", "\\bhashCode\\b", "\\btoString\\b", "\\bString\\b",
        "\\bfloat\\b", "\\bdouble\\b", "Exact\\(", "\\bstatic\\s*\\{", "\"\\s*\\+", "\\+\\s*\"");

    public static void main(String[] args) throws IOException {
        String source = Files.readString(PROGRAM, StandardCharsets.UTF_8);
        Check.due("signs beyond 127", source.chars().filter(c -> c > 127).count(), 0L);
        String code = source.replaceAll("(?s)/\\*.*?\\*/", "").replaceAll("//[^\n]*", "");
        for (String word : RULED_OUT) {
            Check.due("found " + word, count(word, code), 0);
        }
        Check.due("imports", count("\\bimport\\b", code), count("\\bimport java\\.util\\.NoSuchElementException;", code));
        Check.due("public classes", count("\\bpublic (final )?class\\b", code), 1);
        Check.due("static fields that are not final",
            count("\\bstatic (?!final\\b)[\\w\\[\\]]+ \\w+\\s*[=;]", code), 0);
        methodsStayShort(code);
        classesStaySmall();
        Check.end();
    }

    private static int count(String word, String code) {
        Matcher matcher = Pattern.compile(word).matcher(code);
        int count = 0;
        while (matcher.find()) {
            count++;
        }
        return count;
    }

    /** Methods begin and end at the depth of four or of eight blanks. */
    private static void methodsStayShort(String code) {
        Matcher matcher = Pattern.compile("(?m)^( {4}| {8})(?! |\\})[^;=]*\\)[^;=]*\\{\n(.*\n)*?\\1\\}").matcher(code);
        while (matcher.find()) {
            long lines = matcher.group().lines().count();
            Check.due("a method of up to 40 lines:" + matcher.group().lines().findFirst().orElse(""), lines <= 40, true);
        }
    }

    private static void classesStaySmall() {
        List<Class<?>> classes = new ArrayList<>(List.of(Tollkeeper.class.getDeclaredClasses()));
        for (Class<?> inside : classes) {
            int flags = inside.getModifiers();
            Check.due(inside + " is static", Modifier.isStatic(flags), true);
            Check.due(inside + " is hidden", Modifier.isPublic(flags) || Modifier.isProtected(flags), false);
            Check.due("classes inside " + inside, inside.getDeclaredClasses().length, 0);
        }
        classes.add(Tollkeeper.class);
        Check.due("up to 12 classes", classes.size() <= 12, true);
        for (Class<?> its : classes) {
            fieldsAreFew(its);
            Stream.of(its.getDeclaredMethods()).forEach(LanguageTest::parametersAreFew);
            Stream.of(its.getDeclaredConstructors()).forEach(LanguageTest::parametersAreFew);
        }
    }

    private static void fieldsAreFew(Class<?> its) {
        int count = 0;
        for (Field field : its.getDeclaredFields()) {
            if (Modifier.isStatic(field.getModifiers())) {
                Check.due(field + " is final", Modifier.isFinal(field.getModifiers()), true);
            } else {
                count++;
            }
        }
        Check.due("up to 20 fields in " + its, count <= 20, true);
    }

    private static void parametersAreFew(Executable its) {
        Check.due("up to 7 parameters of " + its, its.getParameterCount() <= 7, true);
    }
}
