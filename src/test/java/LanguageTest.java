import java.io.IOException;
import java.lang.reflect.Executable;
import java.lang.reflect.Field;
import java.lang.reflect.Method;
import java.lang.reflect.Modifier;
import java.nio.file.Files;
import java.nio.file.Path;
import java.util.Arrays;
import java.util.List;
import java.util.Set;
import java.util.TreeSet;
import java.util.regex.Matcher;
import java.util.regex.Pattern;

/** What of LANGUAGE.md can be seen from outside: the face, the classes inside, words that may not stand. Run from the project's folder. */
public final class LanguageTest {
    private static final Check CHECK = new Check();
    private static final Path PROGRAM = Path.of("src/main/java/CrownTwo.java");
    private static final Path DOCUMENT = Path.of("../shared/DOC.md");

    public static void main(String[] args) throws IOException {
        String program = Files.readString(PROGRAM);
        face();
        classesInside();
        forbiddenWords(bare(program));
        onlyPlainSigns(program);
        CHECK.end("LanguageTest");
    }

    /** Rule 1: what the document's face tells is there, and nothing else can be seen from outside. */
    private static void face() throws IOException {
        Set<String> told = new TreeSet<>();
        Matcher m = Pattern.compile("    public ((?:int|long) )?(\\w+)\\(([^)]*)\\);").matcher(Files.readString(DOCUMENT));
        while (m.find()) {
            int numbers = m.group(3).isEmpty() ? 0 : m.group(3).split(",").length;
            told.add((m.group(1) == null ? "" : m.group(1)) + m.group(2) + "/" + numbers);
        }
        Set<String> seen = new TreeSet<>();
        for (Executable e : CrownTwo.class.getDeclaredConstructors()) seen.add(e.getName() + "/" + e.getParameterCount());
        for (Method method : CrownTwo.class.getDeclaredMethods()) {
            if (Modifier.isPrivate(method.getModifiers())) {
                CHECK.due("private, with a public one's name: " + method.getName(), publicName(method.getName()) ? 1 : 0, 0);
                continue;
            }
            CHECK.due("public: " + method.getName(), method.getModifiers(), Modifier.PUBLIC);
            seen.add(method.getReturnType() + " " + method.getName() + "/" + method.getParameterCount());
        }
        CHECK.due("the face " + told + ", seen is " + seen, told.equals(seen) ? 1 : 0, 1);
        CHECK.due("the face has a constructor and 34 methods", seen.size(), 35);
        for (Field field : CrownTwo.class.getDeclaredFields()) {
            boolean constant = List.of("NONE", "BAD", "NO", "FULL").contains(field.getName());
            CHECK.due("public: " + field.getName(), Modifier.isPublic(field.getModifiers()) ? 1 : 0, constant ? 1 : 0);
            CHECK.due("private: " + field.getName(), Modifier.isPrivate(field.getModifiers()) ? 0 : 1, constant ? 1 : 0);
        }
        CHECK.due("public and final", CrownTwo.class.getModifiers(), Modifier.PUBLIC | Modifier.FINAL);
    }

    private static boolean publicName(String name) {
        return Arrays.stream(CrownTwo.class.getMethods())
                .anyMatch(m -> m.getDeclaringClass() == CrownTwo.class && m.getName().equals(name));
    }

    /** Rules 2, 5 and 11: static classes, final static fields, not too many of anything. */
    private static void classesInside() {
        Class<?>[] inside = CrownTwo.class.getDeclaredClasses();
        CHECK.due("twelve classes at most", inside.length + 1 <= 12 ? 1 : 0, 1);
        for (Class<?> c : inside) {
            CHECK.due("static: " + c.getName(), Modifier.isStatic(c.getModifiers()) ? 1 : 0, 1);
            looksWell(c);
        }
        looksWell(CrownTwo.class);
    }

    private static void looksWell(Class<?> c) {
        int fields = 0;
        for (Field field : c.getDeclaredFields()) {
            boolean isStatic = Modifier.isStatic(field.getModifiers());
            CHECK.due("final: " + field, isStatic && !Modifier.isFinal(field.getModifiers()) ? 1 : 0, 0);
            if (!isStatic) fields++;
        }
        CHECK.due("twenty fields at most: " + c.getName(), fields <= 20 ? 1 : 0, 1);
        for (Method method : c.getDeclaredMethods()) {
            CHECK.due("seven numbers at most: " + method, method.getParameterCount() <= 7 ? 1 : 0, 1);
            CHECK.due("no public name inside: " + method, c != CrownTwo.class && publicName(method.getName()) ? 1 : 0, 0);
        }
    }

    /** Rules 2, 4, 6, 10 and 13, by their words. */
    private static void forbiddenWords(String program) {
        String[] words = {
            "throw", "throws", "try", "catch", "finally", "synchronized", "assert", "volatile", "native", "import",
            "package", "protected", "var", "yield", "\\w+Exact", "hashCode", "toString", "Thread", "Object", "Random",
            "currentTimeMillis", "nanoTime", "getenv", "\\w*Exception"};
        for (String word : words) {
            CHECK.due("the word " + word, Pattern.compile("\\b" + word + "\\b").matcher(program).find() ? 1 : 0, 0);
        }
        for (String sign : new String[] {"->", "::", "@", "\"\"\""}) {
            CHECK.due("the sign " + sign, program.contains(sign) ? 1 : 0, 0);
        }
        CHECK.due("System.arraycopy alone of System", program.replace("System.arraycopy", "").contains("System") ? 1 : 0, 0);
    }

    private static void onlyPlainSigns(String program) {
        CHECK.due("signs 1 to 127 alone", program.chars().allMatch(c -> c > 0 && c < 128) ? 1 : 0, 1);
    }

    /** The program without its comments. */
    private static String bare(String program) {
        return program.replaceAll("(?s)/\\*.*?\\*/", " ").replaceAll("//[^\n]*", " ");
    }
}
