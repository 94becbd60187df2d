import java.io.IOException;
import java.lang.reflect.Constructor;
import java.lang.reflect.Field;
import java.lang.reflect.Method;
import java.lang.reflect.Modifier;
import java.nio.file.Files;
import java.nio.file.Path;
import java.util.HashSet;
import java.util.Set;
import java.util.regex.Matcher;
import java.util.regex.Pattern;

/** The public face is the document's and no more, and the file keeps to those rules of LANGUAGE.md that words tell. */
public final class FaceTest {
    private static final String[] FACE = {
        "int feed(int,int,int,int,int)", "int end(int)", "int cell()", "int f(int)", "int neck(int)",
        "int box(int,int)", "int bases()", "int basis(int)", "int rank(int)", "int exchange(int,int,int)",
        "int part(int)", "long ways(int)", "int cross(int,int)", "int cluster(int)", "int square(int)",
        "int move(int)", "int lower(int,int)", "int upper(int,int)", "int down(int)", "int up(int)",
        "boolean turn()", "boolean mirror()", "boolean complement()", "int undo()", "int howMany(int,int,int)",
        "int keep(int)", "int has(int)", "int count(int)",
    };
    private static final String[] FORBIDDEN = {
        "\\bthrow\\b", "\\bthrows\\b", "\\btry\\b", "\\bcatch\\b", "\\bsynchronized\\b", "\\bassert\\b", "->", "::",
        "\\bpackage\\b", "\\bprotected\\b", "\\bvolatile\\b", "\\bnative\\b", "Exact\\b", "\\bSystem\\.(?!arraycopy)",
        "\\bhashCode\\b", "\\btoString\\b", "\\bequals\\b", "\\bvar\\b", "static \\{", "\\bfinalize\\b",
    };

    private FaceTest() {
    }

    public static void main(String[] args) throws IOException {
        members();
        names();
        words();
        Check.close("FaceTest");
    }

    private static String simple(Method m) {
        StringBuilder text = new StringBuilder(m.getReturnType().getSimpleName()).append(' ').append(m.getName());
        String comma = "(";
        for (Class<?> type : m.getParameterTypes()) {
            text.append(comma).append(type.getSimpleName());
            comma = ",";
        }
        return text.append(m.getParameterCount() == 0 ? "()" : ")").toString();
    }

    private static void members() {
        Set<String> wanted = new HashSet<>(Set.of(FACE));
        for (Method m : GrassCells.class.getDeclaredMethods()) {
            boolean expected = wanted.remove(simple(m));
            Check.due(simple(m) + " is public", Modifier.isPublic(m.getModifiers()), expected);
            Check.due(simple(m) + " is private or public", expected || Modifier.isPrivate(m.getModifiers()), true);
        }
        Check.due("methods that lack: " + wanted, wanted.size(), 0);
        for (Field field : GrassCells.class.getDeclaredFields()) {
            boolean face = field.getName().equals("NONE");
            Check.due(field + " is public", Modifier.isPublic(field.getModifiers()), face);
            Check.due(field + " is private or public", face || Modifier.isPrivate(field.getModifiers()), true);
        }
        Constructor<?>[] made = GrassCells.class.getDeclaredConstructors();
        Check.due("constructors", made.length, 1);
        Check.due("public constructor without parameters", Modifier.isPublic(made[0].getModifiers())
                && made[0].getParameterCount() == 0, true);
        Check.due("a final class", Modifier.isFinal(GrassCells.class.getModifiers()), true);
    }

    private static void names() {
        Set<String> open = new HashSet<>();
        for (Method m : GrassCells.class.getMethods()) {
            open.add(m.getName());
        }
        Class<?>[] inside = GrassCells.class.getDeclaredClasses();
        Check.due("some twelve classes", inside.length <= 12, true);
        for (Class<?> c : inside) {
            Check.due(c + " is static", Modifier.isStatic(c.getModifiers()), true);
            Check.due(c + " is not public", Modifier.isPublic(c.getModifiers()), false);
            for (Method m : c.getDeclaredMethods()) {
                Check.due(m + " bears the name of a public one", open.contains(m.getName()), false);
                Check.due(m + " has seven parameters at most", m.getParameterCount() <= 7, true);
            }
            for (Field field : c.getDeclaredFields()) {
                int how = field.getModifiers();
                Check.due(field + " is final where it is static",
                        !Modifier.isStatic(how) || Modifier.isFinal(how), true);
            }
        }
    }

    private static void words() throws IOException {
        String text = Files.readString(Path.of("src/main/java/GrassCells.java"));
        String code = text.replaceAll("(?s)/\\*.*?\\*/", " ").replaceAll("//[^\n]*", " ");
        for (String word : FORBIDDEN) {
            Matcher m = Pattern.compile(word).matcher(code);
            Check.due("the file holds " + word, m.find(), false);
        }
        Matcher imports = Pattern.compile("import ([^;]*);").matcher(code);
        while (imports.find()) {
            Check.due("import " + imports.group(1), imports.group(1).equals("java.util.Arrays"), true);
        }
    }
}
