import java.io.IOException;
import java.lang.reflect.Constructor;
import java.lang.reflect.Field;
import java.lang.reflect.Member;
import java.lang.reflect.Method;
import java.lang.reflect.Modifier;
import java.nio.file.Files;
import java.nio.file.Path;
import java.util.ArrayList;
import java.util.Arrays;
import java.util.List;
import java.util.Set;
import java.util.TreeSet;
import java.util.regex.Matcher;
import java.util.regex.Pattern;

/** The face of the class, and those rules of ../shared/LANGUAGE.md that a look at the file can tell. */
public final class LanguageTest {
    private static final Path SOURCE = Path.of("src/main/java/VerseCustoms.java"), DOC = Path.of("../shared/DOC.md");
    private static final List<String> FORBIDDEN = List.of("throw", "throws", "try", "catch", "finally", "synchronized",
        "assert", "instanceof", "package", "native", "volatile", "transient", "Object", "System.out", "System.in",
        "System.exit", "System.nanoTime", "System.currentTimeMillis", "Thread", "Random", "hashCode", "toString");
    private static int wrong = 0;

    public static void main(String[] args) throws IOException {
        String code = withoutCommentsAndTexts(Files.readString(SOURCE));
        words(code);
        imports(code);
        face(Files.readString(DOC));
        inside();
        lengths(code);
        System.out.println(wrong == 0 ? "the file keeps to the language" : wrong + " rules broken");
        if (wrong != 0) System.exit(1);
    }

    private static void check(boolean good, String what) {
        if (good) return;
        wrong++;
        System.out.println(what);
    }

    private static String withoutCommentsAndTexts(String source) {
        return source.replaceAll("(?s)/\\*.*?\\*/", " ").replaceAll("//[^\n]*", " ").replaceAll("\"[^\"\n]*\"", "\"\"");
    }

    private static void words(String code) {
        for (String word : FORBIDDEN) {
            boolean found = Pattern.compile("(?<![\\w.])" + Pattern.quote(word) + "(?!\\w)").matcher(code).find();
            check(!found, "the file says " + word);
        }
        check(!code.contains("->") && !code.contains("::"), "the file has an arrow or a method reference");
    }

    private static void imports(String code) {
        Matcher m = Pattern.compile("import ([\\w.* ]+);").matcher(code);
        while (m.find()) check(m.group(1).equals("java.util.Arrays"), "the file imports " + m.group(1));
    }

    /** Just the document's members are to be seen from outside. */
    private static void face(String doc) {
        Set<String> due = new TreeSet<>();
        Matcher m = Pattern.compile("    public int (\\w+)\\(([^)]*)\\);").matcher(doc);
        while (m.find()) due.add(m.group(1) + " " + (m.group(2).isEmpty() ? 0 : m.group(2).split(",").length));
        for (String constant : List.of("NONE", "UNKNOWN", "OUTSIDE", "NOT", "FULL")) due.add(constant);
        Set<String> seen = new TreeSet<>();
        Set<String> publicNames = new TreeSet<>();
        for (Method method : VerseCustoms.class.getDeclaredMethods()) {
            if (Modifier.isPrivate(method.getModifiers())) continue;
            publicNames.add(method.getName());
            seen.add(method.getName() + " " + method.getParameterCount());
            check(isPublicInt(method, method.getReturnType()), "not public, or not of int: " + method);
            for (Class<?> type : method.getParameterTypes()) check(type == int.class, "not of int: " + method);
        }
        for (Field field : VerseCustoms.class.getDeclaredFields()) {
            if (Modifier.isPrivate(field.getModifiers())) continue;
            seen.add(field.getName());
            check(isPublicInt(field, field.getType()), "not public, or not of int: " + field);
        }
        check(seen.equals(due), "the face has " + seen + ", due is " + due);
        for (Method method : VerseCustoms.class.getDeclaredMethods()) {
            boolean hidden = Modifier.isPrivate(method.getModifiers()) && !method.isSynthetic();
            check(!hidden || !publicNames.contains(method.getName()), "private with a public name: " + method);
        }
        Constructor<?>[] made = VerseCustoms.class.getDeclaredConstructors();
        check(made.length == 1 && Modifier.isPublic(made[0].getModifiers()) && made[0].getParameterCount() == 0, "constructors");
        check(VerseCustoms.class.getModifiers() == (Modifier.PUBLIC | Modifier.FINAL), "the class is not public and final");
    }

    private static boolean isPublicInt(Member member, Class<?> type) {
        return Modifier.isPublic(member.getModifiers()) && type == int.class;
    }

    /** Classes inside are static and few; no class has many fields, none that can change is static. */
    private static void inside() {
        List<Class<?>> all = new ArrayList<>(Arrays.asList(VerseCustoms.class.getDeclaredClasses()));
        for (Class<?> c : all) {
            int m = c.getModifiers();
            check(Modifier.isStatic(m) && !Modifier.isPublic(m) && !Modifier.isProtected(m), "not static or not hidden: " + c);
        }
        all.add(VerseCustoms.class);
        check(all.size() <= 12, "there are many classes: " + all.size());
        for (Class<?> c : all) {
            int fields = 0;
            for (Field field : c.getDeclaredFields()) {
                if (!Modifier.isStatic(field.getModifiers())) fields++;
                else check(Modifier.isFinal(field.getModifiers()), "static and not final: " + field);
            }
            check(fields <= 20, "many fields: " + c);
            for (Method method : c.getDeclaredMethods()) check(method.getParameterCount() <= 7, "many parameters: " + method);
        }
    }

    /** A method begins at a line that ends with a brace behind its parameters and ends at a brace as far in. */
    private static void lengths(String code) {
        String[] lines = code.split("\n");
        Pattern head = Pattern.compile("^( {4}| {8})(?! )[\\w\\[\\] ]+\\([^;]*\\) \\{$");
        for (int i = 0; i < lines.length; i++) {
            check(lines[i].length() <= 120, "a long line: " + (i + 1));
            Matcher m = head.matcher(lines[i]);
            if (!m.find() || lines[i].trim().matches("(if|for|while|switch) .*")) continue;
            int end = i;
            while (end < lines.length - 1 && !lines[end].equals(m.group(1) + "}")) end++;
            check(end - i < 60, "a long method: " + lines[i].trim());
        }
    }
}
