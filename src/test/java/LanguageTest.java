import java.io.IOException;
import java.lang.reflect.Constructor;
import java.lang.reflect.Field;
import java.lang.reflect.Member;
import java.lang.reflect.Method;
import java.lang.reflect.Modifier;
import java.nio.charset.StandardCharsets;
import java.nio.file.Files;
import java.nio.file.Path;
import java.util.ArrayList;
import java.util.List;
import java.util.Set;
import java.util.TreeSet;
import java.util.regex.Matcher;
import java.util.regex.Pattern;

/** The face, and those rules of LANGUAGE.md that can be seen from outside or from the text. */
final class LanguageTest {
    private static final Path SOURCE = Path.of("src/main/java/FewRectangles.java");
    private static final int MOST_CLASSES = 13, MOST_FIELDS = 20, MOST_PARAMETERS = 7, MOST_LINES = 60;
    private final Check check = new Check("LanguageTest");

    public static void main(String[] args) throws IOException {
        LanguageTest test = new LanguageTest();
        test.face();
        test.classes();
        test.words();
        test.lengths();
        test.check.end();
    }

    private void face() {
        Set<String> names = new TreeSet<>();
        for (Method m : FewRectangles.class.getDeclaredMethods()) {
            if (Modifier.isPublic(m.getModifiers())) {
                check.so(m.getName() + " answers an int", m.getReturnType() == int.class);
                check.so(m.getName() + " is told once", names.add(m.getName()));
                check.due(m.getName() + "'s arguments", m.getParameterCount(), Face.CALLS.getOrDefault(m.getName(), -1));
            } else {
                check.so(m.getName() + " is private", Modifier.isPrivate(m.getModifiers()));
                check.so(m.getName() + " bears no public name", !Face.CALLS.containsKey(m.getName()));
            }
        }
        check.due("public calls", names.size(), Face.CALLS.size());
        Set<String> constants = Set.of("NONE", "BAD", "STATE", "FULL", "MIXED", "VOID");
        int told = 0;
        for (Field f : FewRectangles.class.getDeclaredFields()) {
            boolean is = constants.contains(f.getName());
            told += is ? 1 : 0;
            check.so(f.getName(), is == Modifier.isPublic(f.getModifiers()) && is != Modifier.isPrivate(f.getModifiers()));
        }
        check.due("constants", told, 6);
        Constructor<?>[] made = FewRectangles.class.getDeclaredConstructors();
        check.so("one constructor", made.length == 1 && Modifier.isPublic(made[0].getModifiers()));
        check.so("a final class", Modifier.isFinal(FewRectangles.class.getModifiers()));
    }

    private void classes() {
        List<Class<?>> all = new ArrayList<>(List.of(FewRectangles.class.getDeclaredClasses()));
        check.so("how many classes", all.size() + 1 <= MOST_CLASSES);
        for (Class<?> c : all) {
            check.so(c + " is static", Modifier.isStatic(c.getModifiers()) && !Modifier.isPublic(c.getModifiers()));
            check.due(c + " has none inside", c.getDeclaredClasses().length, 0);
        }
        all.add(FewRectangles.class);
        for (Class<?> c : all) {
            int fields = 0;
            for (Field f : c.getDeclaredFields()) {
                if (!Modifier.isStatic(f.getModifiers())) fields++;
                else check.so(f + " is final", Modifier.isFinal(f.getModifiers()));
            }
            check.so(c + " has few fields", fields <= MOST_FIELDS);
            for (Method m : c.getDeclaredMethods()) checkMethod(c, m);
        }
    }

    private void checkMethod(Class<?> c, Method m) {
        check.so(m + " takes few arguments", m.getParameterCount() <= MOST_PARAMETERS);
        boolean isFace = c == FewRectangles.class && Modifier.isPublic(m.getModifiers());
        check.so(m + " bears no public name", isFace || !Face.CALLS.containsKey(m.getName()));
        check.so(m + " is no library's", !isOwnMember(m) || !Set.of("equals", "hashCode", "toString").contains(m.getName()));
    }

    private static boolean isOwnMember(Member m) {
        return !m.isSynthetic();
    }

    private void words() throws IOException {
        String code = code();
        String[] never = {"\\bthrow\\b", "\\bthrows\\b", "\\btry\\b", "\\bcatch\\b", "\\bfinally\\b", "\\bsynchronized\\b",
            "\\bassert\\b", "->", "::", "\\bObject\\b", "\\bSystem\\.(?!arraycopy)", "\\bRuntime\\b", "\\bThread\\b",
            "\\bpackage\\b", "Exact\\(", "\\bnative\\b", "\\bvolatile\\b", "\\btransient\\b", "\\brecord\\b", "\\bvar\\b"};
        for (String word : never) check.so("no " + word, !Pattern.compile(word).matcher(code).find());
        Matcher imports = Pattern.compile("import ([\\w.]+);").matcher(code);
        while (imports.find()) {
            check.so(imports.group(), Set.of("java.util.Arrays", "java.util.ArrayList", "java.util.List").contains(imports.group(1)));
        }
        check.so("signs of the text", code.chars().allMatch(c -> c < 128));
    }

    /** The program's text without its comments. */
    private static String code() throws IOException {
        String text = Files.readString(SOURCE, StandardCharsets.UTF_8);
        return text.replaceAll("(?s)/\\*.*?\\*/", "").replaceAll("//[^\n]*", "");
    }

    private void lengths() throws IOException {
        int begun = 0, number = 0;
        Pattern head = Pattern.compile("^ {4}(?: {4})?[\\w\\[\\] ]+\\(.*\\) \\{$");
        for (String line : Files.readAllLines(SOURCE, StandardCharsets.UTF_8)) {
            number++;
            if (head.matcher(line).matches() && !line.contains(" class ")) begun = number;
            if (line.matches(" {4}(?: {4})?\\}") && begun > 0) {
                check.so("the method at line " + begun + " is short", number - begun <= MOST_LINES);
                begun = 0;
            }
            check.so("line " + number + " is no longer than 130", line.length() <= 130);
        }
    }
}
