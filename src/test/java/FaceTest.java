import java.lang.reflect.Constructor;
import java.lang.reflect.Field;
import java.lang.reflect.Method;
import java.lang.reflect.Modifier;
import java.lang.reflect.Parameter;
import java.nio.file.Files;
import java.nio.file.Path;
import java.util.ArrayList;
import java.util.HashSet;
import java.util.List;
import java.util.Set;
import java.util.regex.Matcher;
import java.util.regex.Pattern;

/** The public face, as the document writes it, and what LANGUAGE.md rules out, as far as words show it. */
public final class FaceTest {
    private FaceTest() {
    }

    private static boolean isPublic(int modifiers) {
        return Modifier.isPublic(modifiers);
    }

    private static String signature(Method m) {
        StringBuilder s = new StringBuilder(m.getReturnType().getName()).append(' ').append(m.getName()).append('(');
        for (Parameter p : m.getParameters()) {
            s.append(s.charAt(s.length() - 1) == '(' ? "" : ", ").append(p.getType().getName());
        }
        return s.append(')').toString();
    }

    private static void face(String document) {
        Set<String> due = new HashSet<>();
        Matcher m = Pattern.compile("    public (\\w+ \\w+\\(.*\\));").matcher(document);
        while (m.find()) {
            due.add(m.group(1).replaceAll("(int|long|boolean) \\w+([,)])", "$1$2"));
        }
        Due.is("the document's methods", due.size(), 34);
        Set<String> names = new HashSet<>();
        for (Method method : InnPurposes.class.getDeclaredMethods()) {
            if (isPublic(method.getModifiers())) {
                names.add(method.getName());
                Due.so("due: " + signature(method), due.remove(signature(method)));
            } else {
                Due.so("private: " + method, Modifier.isPrivate(method.getModifiers()));
            }
        }
        Due.is("methods not there: " + due, due.size(), 0);
        for (Method method : InnPurposes.class.getDeclaredMethods()) {
            Due.so("no public name: " + method,
                isPublic(method.getModifiers()) || !names.contains(method.getName()));
        }
    }

    private static void constants() throws Exception {
        String[] names = {"NONE", "BAD", "STATE", "FULL"};
        int many = 0;
        for (Field f : InnPurposes.class.getDeclaredFields()) {
            many += isPublic(f.getModifiers()) ? 1 : 0;
            Due.so("public or private: " + f, isPublic(f.getModifiers()) || Modifier.isPrivate(f.getModifiers()));
        }
        Due.is("public constants", many, 5);
        for (int i = 0; i < 4; i++) {
            Due.is(names[i], InnPurposes.class.getField(names[i]).getInt(null), -1 - i);
        }
        Due.is("NO", InnPurposes.class.getField("NO").getLong(null), Long.MIN_VALUE);
        Due.so("a public final class", Modifier.isFinal(InnPurposes.class.getModifiers()));
        Constructor<?>[] made = InnPurposes.class.getDeclaredConstructors();
        Due.is("constructors", made.length, 1);
        Due.so("made of nothing", isPublic(made[0].getModifiers()) && made[0].getParameterCount() == 0);
    }

    private static int classes(Class<?> in) {
        int many = 1;
        int fields = 0;
        for (Field f : in.getDeclaredFields()) {
            fields += Modifier.isStatic(f.getModifiers()) ? 0 : 1;
        }
        Due.so("at most twenty fields: " + in, fields <= 20);
        for (Class<?> inside : in.getDeclaredClasses()) {
            Due.so("static: " + inside, Modifier.isStatic(inside.getModifiers()));
            many += classes(inside);
        }
        return many;
    }

    private static void words(String source) {
        String bare = source.replaceAll("(?s)/\\*.*?\\*/", "").replaceAll("//.*", "").replaceAll("\"[^\"]*\"", "\"\"");
        String[] none = {"throw", "throws", "try", "catch", "synchronized", "assert", "record", "double", "float",
            "package", "Exact", "equals", "hashCode", "toString", "System\\.(?!arraycopy)", "Math\\.(?!min|max)",
            "Arrays\\.(?!fill)", "import java\\.(?!util\\.Arrays;)", "->", "::", "while\\s*\\(true",
            "new \\w+\\(\\)\\s*\\{"};
        for (String word : none) {
            String around = Character.isLetter(word.charAt(0)) ? "\\b" + word : word;
            Due.so("not in the source: " + word, !Pattern.compile(around + "(?![A-Za-z])").matcher(bare).find()
                && (word.length() < 6 || !Pattern.compile(around).matcher(bare).find()));
        }
    }

    /** Methods stay short, and take seven parameters at most. */
    private static void lengths(List<String> lines) {
        int from = -1;
        String indent = "";
        for (int i = 0; i < lines.size(); i++) {
            String line = lines.get(i);
            boolean begins = line.matches(" {4}( {4})?\\w[^=;]*\\(.*\\) \\{")
                && !line.matches(" *(if|for|while|switch|return).*");
            if (begins) {
                from = i;
                indent = line.substring(0, line.indexOf(line.trim()));
                Due.so("seven parameters at most: " + line, line.split(",").length <= 7);
            } else if (from >= 0 && line.equals(indent + "}")) {
                Due.so("sixty lines at most: " + lines.get(from), i - from <= 60);
                from = -1;
            }
        }
    }

    public static void main(String[] args) throws Exception {
        String document = Files.readString(Path.of(args[0]));
        Path source = Path.of(args[1]);
        face(document);
        constants();
        Due.so("at most twelve classes", classes(InnPurposes.class) <= 12);
        words(Files.readString(source));
        lengths(new ArrayList<>(Files.readAllLines(source)));
        Due.finish();
    }
}
