import java.io.IOException;
import java.lang.reflect.Constructor;
import java.lang.reflect.Field;
import java.lang.reflect.Method;
import java.lang.reflect.Modifier;
import java.nio.file.Files;
import java.nio.file.Path;
import java.util.HashSet;
import java.util.Set;
import java.util.TreeSet;
import java.util.regex.Matcher;
import java.util.regex.Pattern;

/** The face of the document, and those rules of LANGUAGE.md that can be seen from outside or in the text. */
public final class LanguageTest {
    private static final Path SOURCE = Path.of("src/main/java/BalloonGrocers.java");
    private static final Path DOCUMENT = Path.of("../shared/DOC.md");

    public static void main(String[] args) throws IOException {
        String source = Files.readString(SOURCE);
        String code = source.replaceAll("(?s)/\\*.*?\\*/", "").replaceAll("//[^\n]*", "");
        face(Files.readString(DOCUMENT));
        members();
        words(source, code);
        lengths(code);
        Check.finish("LanguageTest");
    }

    private static void face(String document) {
        Set<String> due = new TreeSet<>();
        Matcher m = Pattern.compile("    public (int|long) (\\w+)\\(([^)]*)\\);").matcher(document);
        while (m.find()) {
            due.add(m.group(1) + " " + m.group(2) + " " + m.group(3).replaceAll(" \\w+(,|$)", "$1"));
        }
        Set<String> got = new TreeSet<>();
        for (Method method : BalloonGrocers.class.getDeclaredMethods()) {
            if (!Modifier.isPrivate(method.getModifiers())) {
                StringBuilder types = new StringBuilder();
                for (Class<?> type : method.getParameterTypes()) {
                    types.append(types.length() == 0 ? "" : ", ").append(type.getName());
                }
                got.add(method.getReturnType().getName() + " " + method.getName() + " " + types);
                Check.due(method + " is public", Modifier.isPublic(method.getModifiers()) ? 1 : 0, 1);
            }
        }
        Check.due("methods in the document", due.size(), 61);
        Check.due("the face is the document's: " + got, got.equals(due) ? 1 : 0, 1);
        Check.due("NONE", BalloonGrocers.NONE, -1);
        Check.due("the class is final", Modifier.isFinal(BalloonGrocers.class.getModifiers()) ? 1 : 0, 1);
        Constructor<?>[] makers = BalloonGrocers.class.getDeclaredConstructors();
        Check.due("one constructor without numbers", makers.length == 1 && makers[0].getParameterCount() == 0 ? 1 : 0, 1);
    }

    private static void members() {
        Set<String> open = new HashSet<>();
        for (Method method : BalloonGrocers.class.getDeclaredMethods()) {
            if (Modifier.isPublic(method.getModifiers())) {
                open.add(method.getName());
            }
        }
        for (Method method : BalloonGrocers.class.getDeclaredMethods()) {
            if (Modifier.isPrivate(method.getModifiers())) {
                Check.due(method + " bears a name of the face", open.contains(method.getName()) ? 1 : 0, 0);
            }
        }
        for (Field field : BalloonGrocers.class.getDeclaredFields()) {
            boolean hidden = Modifier.isPrivate(field.getModifiers()) || field.getName().equals("NONE");
            Check.due(field + " is hidden", hidden ? 1 : 0, 1);
        }
        Class<?>[] inside = BalloonGrocers.class.getDeclaredClasses();
        Check.due("at most twelve classes", inside.length < 12 ? 1 : 0, 1);
        for (Class<?> type : inside) {
            Check.due(type + " is static", Modifier.isStatic(type.getModifiers()) ? 1 : 0, 1);
            Check.due(type + " is hidden", Modifier.isPublic(type.getModifiers()) ? 1 : 0, 0);
            parts(type, open);
        }
        parts(BalloonGrocers.class, Set.of());
    }

    private static void parts(Class<?> type, Set<String> open) {
        int fields = 0;
        for (Field field : type.getDeclaredFields()) {
            boolean fixed = Modifier.isStatic(field.getModifiers());
            fields += fixed ? 0 : 1;
            Check.due(field + " is final if static", !fixed || Modifier.isFinal(field.getModifiers()) ? 1 : 0, 1);
        }
        Check.due(type + " has at most twenty fields", fields <= 20 ? 1 : 0, 1);
        for (Method method : type.getDeclaredMethods()) {
            Check.due(method + " has at most seven parameters", method.getParameterCount() <= 7 ? 1 : 0, 1);
            Check.due(method + " bears a name of the face", open.contains(method.getName()) ? 1 : 0, 0);
        }
    }

    private static void words(String source, String code) {
        String[] none = {"throw", "throws", "try", "catch", "synchronized", "assert", "package", "import", "protected", "native",
            "transient", "volatile", "hashCode", "toString", "Object", "Thread", "float", "double", "Random", "Iterator"};
        for (String word : none) {
            Check.due("the word " + word, Pattern.compile("\\b" + word + "\\b").matcher(code).find() ? 1 : 0, 0);
        }
        Check.due("no lambda, no reference", code.contains("->") || code.contains("::") ? 1 : 0, 0);
        Matcher system = Pattern.compile("\\bSystem\\.(\\w+)").matcher(code);
        while (system.find()) {
            Check.due("System." + system.group(1), system.group(1).equals("arraycopy") ? 1 : 0, 1);
        }
        Check.due("an Exact function", code.contains("Exact(") ? 1 : 0, 0);
        Check.due("a tab", source.contains("\t") ? 1 : 0, 0);
        boolean plain = true;
        for (int i = 0; i < source.length(); i++) {
            plain &= source.charAt(i) < 128;
        }
        Check.due("signs 1 to 127 alone", plain ? 1 : 0, 1);
        Check.due("joining texts by +", Pattern.compile("\"\\s*\\+|\\+\\s*\"").matcher(code).find() ? 1 : 0, 0);
    }

    /** A method begins at an indent of 4 or 8 with { and ends at the same indent with }. */
    private static void lengths(String code) {
        String[] lines = code.split("\n");
        for (int i = 0; i < lines.length; i++) {
            Matcher m = Pattern.compile("^( {4}| {8})(?! )(?!.*\\bclass\\b).*\\) \\{$").matcher(lines[i]);
            if (m.find()) {
                int end = i;
                while (end < lines.length && !lines[end].equals(m.group(1) + "}")) {
                    end++;
                }
                Check.due("at most sixty lines:" + lines[i], end - i <= 60 ? 1 : 0, 1);
            }
        }
    }
}
