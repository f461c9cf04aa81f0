import java.io.IOException;
import java.lang.reflect.Constructor;
import java.lang.reflect.Field;
import java.lang.reflect.Member;
import java.lang.reflect.Method;
import java.lang.reflect.Modifier;
import java.nio.file.Files;
import java.nio.file.Path;
import java.util.Set;
import java.util.TreeSet;
import java.util.regex.Matcher;
import java.util.regex.Pattern;

/** The face of the class, and those rules of LANGUAGE.md that can be seen from outside the code's meaning. */
public final class LanguageTests {
    private static final Path SOURCE = Path.of("src/main/java/StandingQueries.java");
    private static final int MOST_LINES = 60, MOST_PARAMETERS = 7, MOST_CLASSES = 12, MOST_FIELDS = 20;
    private static final Set<String> FACE = Set.of(
        "int type(int)", "int clear()", "int adds()", "int drops(int)", "int feeds(int)", "int cuts()", "int undo()",
        "int query(int,int)", "int part(int,int,int)", "int shortest(int,int)", "int more(int)", "long many(int,int)",
        "int word(int,int)", "int hit(int,int)", "int node(int,int)", "int next(int,int)", "int letter(int)", "int now(int)",
        "int keep(int)", "int back(int)", "int count(int)");
    private static int wrong = 0;

    private static void must(boolean holds, String what) {
        if (!holds) {
            wrong++;
            System.out.println("not so: " + what);
        }
    }

    private static boolean isSeen(Member member) {
        return !Modifier.isPrivate(member.getModifiers()) && !member.isSynthetic();
    }

    private static String faceOf(Method method) {
        StringBuilder face = new StringBuilder(method.getReturnType() + " " + method.getName() + "(");
        for (int i = 0; i < method.getParameterCount(); i++) {
            face.append(i == 0 ? "" : ",").append(method.getParameterTypes()[i]);
        }
        return face.append(")").toString();
    }

    private static void face() {
        Class<?> c = StandingQueries.class;
        must(Modifier.isPublic(c.getModifiers()) && Modifier.isFinal(c.getModifiers()), "the class is public and final");
        Set<String> methods = new TreeSet<>();
        for (Method method : c.getDeclaredMethods()) {
            if (isSeen(method)) {
                methods.add(faceOf(method));
                must(Modifier.isPublic(method.getModifiers()) && !Modifier.isStatic(method.getModifiers()), "public: " + method);
            }
        }
        must(methods.equals(new TreeSet<>(FACE)), "the methods are the face's: " + methods);
        Set<String> fields = new TreeSet<>();
        for (Field field : c.getDeclaredFields()) {
            if (isSeen(field)) {
                fields.add(field.getName());
                must(field.getType() == int.class && field.getModifiers() == (Modifier.PUBLIC | Modifier.STATIC | Modifier.FINAL),
                    "a constant: " + field);
            }
        }
        must(fields.equals(Set.of("BAD", "STATE", "FULL", "NONE")), "the constants are the face's: " + fields);
        for (Constructor<?> constructor : c.getDeclaredConstructors()) {
            must(constructor.getParameterCount() == 0 && Modifier.isPublic(constructor.getModifiers()), "public: " + constructor);
        }
    }

    private static void classes() {
        Class<?>[] inside = StandingQueries.class.getDeclaredClasses();
        must(inside.length + 1 <= MOST_CLASSES, "not too many classes");
        for (Class<?> c : inside) {
            must(Modifier.isStatic(c.getModifiers()), "static: " + c);
            sizesOf(c);
        }
        sizesOf(StandingQueries.class);
    }

    private static void sizesOf(Class<?> c) {
        int fields = 0;
        for (Field field : c.getDeclaredFields()) {
            boolean isStatic = Modifier.isStatic(field.getModifiers());
            fields += isStatic ? 0 : 1;
            must(!isStatic || Modifier.isFinal(field.getModifiers()), "final: " + field);
        }
        must(fields <= MOST_FIELDS, "not too many fields in " + c);
        Set<String> names = new TreeSet<>();
        FACE.forEach(method -> names.add(method.replaceAll(".* |\\(.*", "")));
        for (Method method : c.getDeclaredMethods()) {
            must(method.getParameterCount() <= MOST_PARAMETERS, "not too many parameters: " + method);
            must(Modifier.isPublic(method.getModifiers()) || !names.contains(method.getName()), "a name of its own: " + method);
        }
    }

    private static String withoutComments(String source) {
        return Pattern.compile("/\\*.*?\\*/", Pattern.DOTALL).matcher(source).replaceAll("").replaceAll("//[^\n]*", "");
    }

    private static void source() throws IOException {
        String code = withoutComments(Files.readString(SOURCE));
        String[] banned = {"\\bthrow\\b", "\\bthrows\\b", "\\btry\\b", "\\bcatch\\b", "\\bfinally\\b", "\\bsynchronized\\b", "\\bassert\\b",
            "->", "::", "\\bstatic\\s*\\{", "\\bpackage\\b", "\\bprotected\\b", "\\bObject\\b", "\\bMap\\b", "\\bSet\\b", "Exact\\b",
            "\\bSystem\\.(?!arraycopy\\b)", "\\bMath\\.(?!max\\b|min\\b)", "\\bArrays\\.(?!fill\\b)", "\\bThread\\b", "\\bnative\\b"};
        for (String word : banned) {
            must(!Pattern.compile(word).matcher(code).find(), "the source has none of " + word);
        }
        Matcher imports = Pattern.compile("import ([^;]*);").matcher(code);
        while (imports.find()) {
            must(imports.group(1).equals("java.util.Arrays"), "a library that is listed: " + imports.group(1));
        }
        must(code.chars().allMatch(c -> c == '\n' || c >= 32 && c < 127), "the source has plain signs alone");
        methodLengths(code);
    }

    private static void methodLengths(String code) {
        Matcher methods = Pattern.compile("\n( {4}| {8})(?! )[^\n;=]*\\)\\s*\\{\n(.*?)\n\\1\\}", Pattern.DOTALL).matcher(code);
        int seen = 0;
        for (; methods.find(); seen++) {
            must(methods.group(2).split("\n").length <= MOST_LINES, "a short method: " + methods.group().trim().split("\n")[0]);
        }
        must(seen > FACE.size(), "methods were seen");
    }

    public static void main(String[] args) throws IOException {
        face();
        classes();
        source();
        System.out.println(wrong == 0 ? "the rules are kept" : wrong + " rules are not kept");
        if (wrong != 0) {
            System.exit(1);
        }
    }
}
