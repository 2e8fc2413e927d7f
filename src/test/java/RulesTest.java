import java.io.IOException;
import java.lang.reflect.Field;
import java.lang.reflect.Member;
import java.lang.reflect.Method;
import java.lang.reflect.Modifier;
import java.nio.file.Files;
import java.nio.file.Path;
import java.util.ArrayList;
import java.util.Arrays;
import java.util.List;
import java.util.Set;
import java.util.TreeSet;
import java.util.regex.Matcher;
import java.util.regex.Pattern;

/** What can be seen of the rules of LANGUAGE.md: in the class, by reflection, and in its text. */
public final class RulesTest {
    private static final String[] FACE = {
        "fact int int", "clash int int int", "explain int int int", "ofFact int int", "debtor int int",
        "ofDebtor int int", "book int int int", "become int int", "as int int", "lend int int", "tells int int",
        "pardon int", "weeks int", "loose int", "then int int int", "feed long int", "text int",
        "law int int int int", "served int int", "closed int int", "clashOf int", "joined int int",
        "rated int int int", "explained int int", "meeting int int int", "knows int int", "common int int",
        "since int int", "seed int", "voice int int int", "trace int", "sheet int int int", "put int int int",
        "move int int int int int", "reads int", "judge int int", "image", "restore", "tell int", "check",
        "count int", "told int",
    };
    private static final String[] REFUSED = {
        "\\b(throws?|try|catch|finally|synchronized|assert|yield|volatile|transient|Object)\\b",
        "->", "::", "\\\\u", "System\\.(?!arraycopy\\b)", "Exact\\b", "\\bvar\\b", "\\bpackage\\b",
    };

    private static int wrong = 0;

    private static void rule(int number, boolean kept, String what) {
        if (!kept) {
            wrong++;
            System.out.println("rule " + number + ": " + what);
        }
    }

    public static void main(String[] args) throws IOException {
        String path = args.length > 0 ? args[0] : "src/main/java/ChapterLoan.java";
        List<Class<?>> classes = new ArrayList<>(List.of(ChapterLoan.class.getDeclaredClasses()));
        classes.add(ChapterLoan.class);
        face();
        for (Class<?> one : classes) {
            inside(one);
        }
        rule(11, classes.size() <= 12, "there are " + classes.size() + " classes");
        text(withoutComments(Files.readString(Path.of(path))));
        System.out.println(wrong == 0 ? "the rules are kept" : wrong + " rules are not kept");
        if (wrong != 0) {
            System.exit(1);
        }
    }

    private static void face() {
        Set<String> want = new TreeSet<>(Arrays.asList(FACE));
        Set<String> got = new TreeSet<>();
        for (Method m : ChapterLoan.class.getDeclaredMethods()) {
            if (!m.isSynthetic() && !Modifier.isPrivate(m.getModifiers())) {
                StringBuilder face = new StringBuilder(m.getName());
                for (Class<?> type : m.getParameterTypes()) {
                    face.append(' ').append(type.getSimpleName());
                }
                got.add(face.toString());
                rule(1, m.getReturnType() == int.class && Modifier.isPublic(m.getModifiers())
                    && !Modifier.isStatic(m.getModifiers()), "face of " + m);
            }
        }
        rule(1, want.equals(got), "the face is " + got);
        rule(1, Modifier.isFinal(ChapterLoan.class.getModifiers()), "the class is not final");
        for (Field f : ChapterLoan.class.getDeclaredFields()) {
            rule(1, f.isSynthetic() || Modifier.isPrivate(f.getModifiers()), "field " + f);
        }
    }

    private static void inside(Class<?> type) {
        if (type != ChapterLoan.class) {
            int mods = type.getModifiers();
            rule(2, Modifier.isStatic(mods) && !Modifier.isPublic(mods) && !Modifier.isProtected(mods), "class " + type);
            rule(2, type.getDeclaredClasses().length == 0, "classes inside " + type);
        }
        Set<String> names = new TreeSet<>();
        for (String one : FACE) {
            names.add(one.split(" ")[0]);
        }
        for (Method m : type.getDeclaredMethods()) {
            boolean own = type != ChapterLoan.class || !Modifier.isPublic(m.getModifiers());
            rule(1, m.isSynthetic() || !own || !names.contains(m.getName()), "name of " + m);
            rule(6, !Set.of("equals", "hashCode", "toString").contains(m.getName()), "own " + m);
            rule(11, m.getParameterCount() <= 7, "parameters of " + m);
        }
        int fields = 0;
        for (Field f : type.getDeclaredFields()) {
            fields += Modifier.isStatic(f.getModifiers()) ? 0 : 1;
            rule(5, !Modifier.isStatic(f.getModifiers()) || Modifier.isFinal(f.getModifiers()), "static " + f);
            rule(5, !Modifier.isStatic(f.getModifiers()) || !isMutable(f), "static " + f);
        }
        rule(11, fields <= 20, "fields of " + type);
    }

    private static boolean isMutable(Member m) {
        Class<?> type = ((Field) m).getType();
        return type.isArray() && !Set.of(int[].class, long[].class, char[].class, byte[].class).contains(type);
    }

    private static String withoutComments(String text) {
        String bare = Pattern.compile("/\\*.*?\\*/", Pattern.DOTALL).matcher(text).replaceAll(
            c -> c.group().replaceAll("[^\n]", ""));
        return bare.replaceAll("//[^\n]*", "");
    }

    private static void text(String bare) {
        for (String refused : REFUSED) {
            rule(6, !Pattern.compile(refused).matcher(bare).find(), "the text has " + refused);
        }
        Matcher imports = Pattern.compile("\\bimport ([^;]+);").matcher(bare);
        while (imports.find()) {
            rule(4, Set.of("java.util.Arrays", "java.util.ArrayList", "java.util.List").contains(imports.group(1)),
                "import of " + imports.group(1));
        }
        rule(4, !Pattern.compile("\"\\s*\\+|\\+\\s*\"").matcher(bare).find(), "texts joined by +");
        rule(4, bare.chars().allMatch(c -> c < 128), "a sign above 127");
        methodsAreShort(bare);
    }

    private static void methodsAreShort(String bare) {
        String[] lines = bare.split("\n");
        for (int i = 0; i < lines.length; i++) {
            Matcher m = Pattern.compile("^( {4}| {8})[^ ].*\\) \\{$").matcher(lines[i]);
            if (m.matches()) {
                int end = i;
                while (end < lines.length && !lines[end].equals(m.group(1) + "}")) {
                    end++;
                }
                rule(11, end - i <= 60, "a long method: " + lines[i].trim());
            }
        }
    }
}
