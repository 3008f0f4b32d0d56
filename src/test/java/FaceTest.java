import java.lang.reflect.Constructor;
import java.lang.reflect.Field;
import java.lang.reflect.Method;
import java.lang.reflect.Modifier;
import java.nio.file.Files;
import java.nio.file.Path;
import java.util.Arrays;
import java.util.List;
import java.util.Set;
import java.util.TreeSet;
import java.util.regex.Matcher;
import java.util.regex.Pattern;

/** The public face of the document and the rules of LANGUAGE.md that can be seen from outside. */
public final class FaceTest {
    private static final List<String> FACE = List.of(
        "int dancer(int,int)", "int call()", "int exchanges(int,int,int)", "int turns(int,int,int)",
        "int wants(int,int,int)", "int joins(int,int)", "int backwards(int)", "int gives(int)", "int home()",
        "int of(int,int)", "int on(int)", "int at(int,int,int)", "int tells(int,int)", "int finds(int,int,int)",
        "int found(int,int,int,int)", "int rows(int,int)", "int plans(int)", "int scraps()", "int judges()",
        "int planned(int,int)", "int count(int)", "int type(int)", "int clear()", "int does()", "int back()",
        "int told(int)", "long digest()");

    private static int wrong = 0;

    private static void must(boolean so, String rule) {
        if (!so) {
            wrong++;
            System.out.println("not so: " + rule);
        }
    }

    public static void main(String[] args) throws Exception {
        face();
        insideClasses(CalledSquare.class);
        source();
        System.out.println(wrong == 0 ? "the face is as told" : wrong + " rules broken");
        if (wrong != 0) {
            System.exit(1);
        }
    }

    private static void face() {
        Class<?> c = CalledSquare.class;
        must(Modifier.isPublic(c.getModifiers()) && Modifier.isFinal(c.getModifiers()), "public and final");
        Set<String> methods = new TreeSet<>();
        for (Method m : c.getDeclaredMethods()) {
            if (!Modifier.isPrivate(m.getModifiers())) {
                must(Modifier.isPublic(m.getModifiers()) && !Modifier.isStatic(m.getModifiers()), m + " is public");
                must(m.getExceptionTypes().length == 0, m + " throws nothing");
                methods.add(told(m));
            } else {
                must(!hasNameOfFace(m), m + " bears no name of the face");
            }
        }
        must(methods.equals(new TreeSet<>(FACE)), "the methods are those of the document: " + methods);
        Set<String> fields = new TreeSet<>();
        for (Field f : c.getDeclaredFields()) {
            if (!Modifier.isPrivate(f.getModifiers())) {
                must(Modifier.isPublic(f.getModifiers()) && Modifier.isFinal(f.getModifiers()), f + " is public final");
                fields.add(f.getName());
            }
        }
        must(fields.equals(Set.of("NONE", "BAD", "NO", "FULL")), "the constants are those of the document: " + fields);
        Constructor<?>[] constructors = c.getDeclaredConstructors();
        must(constructors.length == 1 && constructors[0].getParameterCount() == 0
            && Modifier.isPublic(constructors[0].getModifiers()), "one public constructor");
    }

    private static String told(Method m) {
        StringBuilder s = new StringBuilder();
        for (Class<?> p : m.getParameterTypes()) {
            s.append(s.length() == 0 ? "" : ",").append(p.getName());
        }
        return m.getReturnType().getName() + " " + m.getName() + "(" + s + ")";
    }

    private static boolean hasNameOfFace(Method m) {
        return FACE.stream().anyMatch(f -> f.contains(" " + m.getName() + "("));
    }

    private static void insideClasses(Class<?> outer) {
        Class<?>[] inside = outer.getDeclaredClasses();
        must(inside.length <= 12, "at most some twelve classes");
        for (Class<?> c : inside) {
            must(Modifier.isStatic(c.getModifiers()), c + " is static");
            must(!Modifier.isPublic(c.getModifiers()) && !Modifier.isProtected(c.getModifiers()), c + " is not public");
            long fields = Arrays.stream(c.getDeclaredFields()).filter(f -> !Modifier.isStatic(f.getModifiers())).count();
            must(fields <= 20, c + " has some twenty fields at most");
            for (Method m : c.getDeclaredMethods()) {
                must(!hasNameOfFace(m), m + " bears no name of the face");
                must(m.getParameterCount() <= 7, m + " has at most seven parameters");
            }
            for (Field f : c.getDeclaredFields()) {
                must(!Modifier.isStatic(f.getModifiers()) || Modifier.isFinal(f.getModifiers()), f + " is final");
            }
        }
    }

    private static void source() throws Exception {
        String source = Files.readString(Path.of("src/main/java/CalledSquare.java"));
        String code = source.replaceAll("(?s)/\\*.*?\\*/", "").replaceAll("//[^\n]*", "");
        Matcher word = Pattern.compile("\\b(throw|throws|try|catch|synchronized|assert|package|toString|hashCode|equals"
            + "|double|float|Object|System\\.(?!arraycopy)\\w+|Random|Thread|\\w+Exact)\\b|->|::").matcher(code);
        while (word.find()) {
            must(false, "no '" + word.group() + "' in the program");
        }
        must(source.chars().allMatch(c -> c < 128), "signs below 128 alone");
        int longest = 0;
        int start = -1;
        String[] lines = code.split("\n");
        for (int i = 0; i < lines.length; i++) {
            if (lines[i].matches("( {4}| {8})\\w[^;=]*\\) \\{")) {
                start = i;
            } else if (lines[i].matches(" {4}\\}| {8}\\}") && start >= 0) {
                longest = Math.max(longest, i - start + 1);
                start = -1;
            }
        }
        must(longest > 5 && longest <= 60, "methods stay short: " + longest);
    }
}
