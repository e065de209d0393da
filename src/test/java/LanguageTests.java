import java.io.IOException;
import java.lang.reflect.Executable;
import java.lang.reflect.Field;
import java.lang.reflect.Method;
import java.lang.reflect.Modifier;
import java.nio.file.Files;
import java.nio.file.Path;
import java.util.Arrays;
import java.util.List;
import java.util.Set;
import java.util.TreeSet;
import java.util.regex.Matcher;
import java.util.regex.Pattern;
import java.util.stream.Collectors;

/** The public face, and those rules of LANGUAGE.md that a plain look at the source can tell. */
public final class LanguageTests {
    private static final String FACE = "int feed(int,int,int,int,int) boolean end(int) int river() int fault(int) int has(int) int letter(int,int,int) "
        + "int bank(int,int) int reach(int,int) int lies(int,int) int share(int,int) int tint(int,int) int flow(int,int) int cuts(int,int) "
        + "int settles(int,int,int) int carries(int,int,int) int would(int,int) int flood(int) int years(int) boolean stone(int,boolean) "
        + "boolean rake(int,int,int,int) boolean undo() boolean seed(int) int mine(int,int,int,int,int) int keep(int,int,int,int) "
        + "int until(int,int,int) boolean find() int levels() int forged(int) long ask() int image() int octet(int) boolean on() int status(int)";

    public static void main(String[] args) throws IOException {
        Due due = new Due("LanguageTests");
        due.holds("The public face", "public final class SiltShare");
        face(due);
        classes(due);
        String source = Files.readString(Path.of("src/main/java/SiltShare.java"));
        words(due, source);
        lengths(due, source);
        due.finish();
    }

    private static void face(Due due) {
        Set<String> methods = new TreeSet<>();
        for (Method m : SiltShare.class.getDeclaredMethods()) {
            if (!Modifier.isPrivate(m.getModifiers())) {
                String types = Arrays.stream(m.getParameterTypes()).map(Class::getName).collect(Collectors.joining(","));
                methods.add(m.getReturnType() + " " + m.getName() + "(" + types + ")");
                due.is("public " + m, Modifier.isPublic(m.getModifiers()), true);
            }
        }
        due.is("the face: " + methods, methods.equals(new TreeSet<>(Arrays.asList(FACE.split("(?<=\\)) ")))), true);
        for (Field f : SiltShare.class.getDeclaredFields()) {
            boolean told = List.of("NONE", "NOTHING").contains(f.getName());
            due.is("public " + f, !Modifier.isPrivate(f.getModifiers()), told);
        }
        due.holds("The constants", "`NONE = -1`: There is none; it is refused.");
        due.is("NONE", SiltShare.NONE, -1);
        due.holds("The constants", "`NOTHING = -1000000000000000L`: Told where a number below 0 may be one.");
        due.is("NOTHING", SiltShare.NOTHING, -1000000000000000L);
        due.holds("The public face", "public final class SiltShare");
        due.is("final", Modifier.isFinal(SiltShare.class.getModifiers()), true);
    }

    private static void classes(Due due) {
        Class<?>[] inside = SiltShare.class.getDeclaredClasses();
        due.is("classes are some twelve: " + inside.length, inside.length <= 11, true);
        Set<String> face = new TreeSet<>(Arrays.asList(FACE.replaceAll("\\w+ (\\w+)\\([a-z,]*\\)", "$1").split(" ")));
        for (Class<?> c : inside) {
            due.is("static " + c, Modifier.isStatic(c.getModifiers()), true);
            for (Method m : c.getDeclaredMethods()) {
                due.is("the name of " + m, face.contains(m.getName()), false);
                parameters(due, m);
            }
            fields(due, c);
        }
        for (Method m : SiltShare.class.getDeclaredMethods()) {
            due.is("the name of " + m, Modifier.isPrivate(m.getModifiers()) && face.contains(m.getName()), false);
            parameters(due, m);
        }
        fields(due, SiltShare.class);
    }

    private static void parameters(Due due, Executable m) {
        due.is("parameters of " + m, m.getParameterCount() <= 7, true);
    }

    private static void fields(Due due, Class<?> c) {
        long fields = Arrays.stream(c.getDeclaredFields()).filter(f -> !Modifier.isStatic(f.getModifiers())).count();
        due.is("fields of " + c + " are " + fields, fields <= 20, true);
        for (Field f : c.getDeclaredFields()) {
            if (Modifier.isStatic(f.getModifiers())) {
                due.is("final " + f, Modifier.isFinal(f.getModifiers()), true);
            }
        }
    }

    private static void words(Due due, String source) {
        String code = source.replaceAll("(?s)/\\*.*?\\*/", "").replaceAll("//.*", "").replaceAll("\"[^\"]*\"", "\"\"");
        String[] none = {"\\b(throw|throws|try|catch|finally|synchronized|assert|instanceof|yield|var|record|import|package|volatile)\\b",
            "->", "::", "\\b(equals|hashCode|toString|getClass|Exact|System\\.(?!arraycopy))\\b", "\"\" *\\+", "\\+ *\"\"", "@"};
        for (String it : none) {
            Matcher m = Pattern.compile(it).matcher(code);
            due.is(it + " in the source", m.find(), false);
        }
        // rows are made with the object alone: in fields and constructors
        for (String line : code.split("\n")) {
            boolean made = line.matches(".*\\bnew\\b.*");
            boolean field = line.matches("    (private |    )?(final )?[\\w\\[\\]]+ ?\\w* ?[\\w\\[\\] ]*= new .*;");
            boolean constructor = line.matches("        (    )?(reader|flood|mason|packed) = new .*;");
            due.is("made anew: " + line, made, made && (field || constructor));
        }
    }

    private static void lengths(Due due, String source) {
        int from = 0;
        String[] lines = source.split("\n");
        for (int i = 0; i < lines.length; i++) {
            if (lines[i].matches("    (    )?[\\w ]+ ?[\\w\\[\\]]*\\(.*\\) \\{")) {
                from = i;
            }
            if (lines[i].matches("    (    )?\\}")) {
                due.is("the method at line " + (from + 1) + " is short", i - from <= 60, true);
            }
        }
    }
}
