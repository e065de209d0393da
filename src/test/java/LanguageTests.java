import java.io.IOException;
import java.lang.reflect.Executable;
import java.lang.reflect.Field;
import java.lang.reflect.Method;
import java.lang.reflect.Modifier;
import java.nio.file.Files;
import java.nio.file.Path;
import java.util.Arrays;
import java.util.List;
import java.util.Set;
import java.util.TreeSet;
import java.util.regex.Matcher;
import java.util.regex.Pattern;

/** The public face, and those rules of LANGUAGE.md that a plain look at the source can tell. */
public final class LanguageTests {
    private static final String FACE = "feed/5 end/1 river/0 fault/1 has/1 letter/3 bank/2 reach/2 lies/2 share/2 tint/2 flow/2 cuts/2 "
        + "settles/3 carries/3 would/2 flood/1 years/1 stone/2 rake/4 undo/0 seed/1 mine/5 keep/4 until/3 find/0 levels/0 forged/1 "
        + "ask/0 image/0 octet/1 on/0 status/1";

    public static void main(String[] args) throws IOException {
        Due due = new Due("LanguageTests");
        face(due);
        classes(due);
        String source = Files.readString(Path.of("src/main/java/SiltShare.java"));
        words(due, source);
        lengths(due, source);
        due.finish();
    }

    private static void face(Due due) {
        Set<String> methods = new TreeSet<>();
        for (Method m : SiltShare.class.getDeclaredMethods()) {
            if (!Modifier.isPrivate(m.getModifiers())) {
                methods.add(m.getName() + "/" + m.getParameterCount());
                due.is("public " + m, Modifier.isPublic(m.getModifiers()), true);
            }
        }
        due.is("the face: " + methods, methods.equals(new TreeSet<>(Arrays.asList(FACE.split(" ")))), true);
        for (Field f : SiltShare.class.getDeclaredFields()) {
            boolean told = List.of("NONE", "NOTHING").contains(f.getName());
            due.is("public " + f, !Modifier.isPrivate(f.getModifiers()), told);
        }
        due.is("NONE", SiltShare.NONE, -1);
        due.is("NOTHING", SiltShare.NOTHING, -1000000000000000L);
        due.is("final", Modifier.isFinal(SiltShare.class.getModifiers()), true);
    }

    private static void classes(Due due) {
        Class<?>[] inside = SiltShare.class.getDeclaredClasses();
        due.is("classes are some twelve: " + inside.length, inside.length <= 11, true);
        Set<String> face = new TreeSet<>(Arrays.asList(FACE.replaceAll("/[0-9]", "").split(" ")));
        for (Class<?> c : inside) {
            due.is("static " + c, Modifier.isStatic(c.getModifiers()), true);
            for (Method m : c.getDeclaredMethods()) {
                due.is("the name of " + m, face.contains(m.getName()), false);
                parameters(due, m);
            }
            fields(due, c);
        }
        for (Method m : SiltShare.class.getDeclaredMethods()) {
            due.is("the name of " + m, Modifier.isPrivate(m.getModifiers()) && face.contains(m.getName()), false);
            parameters(due, m);
        }
        fields(due, SiltShare.class);
    }

    private static void parameters(Due due, Executable m) {
        due.is("parameters of " + m, m.getParameterCount() <= 7, true);
    }

    private static void fields(Due due, Class<?> c) {
        long fields = Arrays.stream(c.getDeclaredFields()).filter(f -> !Modifier.isStatic(f.getModifiers())).count();
        due.is("fields of " + c + " are " + fields, fields <= 20, true);
        for (Field f : c.getDeclaredFields()) {
            if (Modifier.isStatic(f.getModifiers())) {
                due.is("final " + f, Modifier.isFinal(f.getModifiers()), true);
            }
        }
    }

    private static void words(Due due, String source) {
        String code = source.replaceAll("(?s)/\\*.*?\\*/", "").replaceAll("//.*", "").replaceAll("\"[^\"]*\"", "\"\"");
        String[] none = {"\\b(throw|throws|try|catch|finally|synchronized|assert|instanceof|yield|var|record|import|package|volatile)\\b",
            "->", "::", "\\b(equals|hashCode|toString|getClass|Exact|System\\.(?!arraycopy))\\b", "\"\" *\\+", "\\+ *\"\"", "@"};
        for (String it : none) {
            Matcher m = Pattern.compile(it).matcher(code);
            due.is(it + " in the source", m.find(), false);
        }
        // rows are made with the object alone: in fields and constructors
        for (String line : code.split("\n")) {
            boolean made = line.matches(".*\\bnew\\b.*");
            boolean field = line.matches("    (private |    )?(final )?[\\w\\[\\]]+ ?\\w* ?[\\w\\[\\] ]*= new .*;");
            boolean constructor = line.matches("        (    )?(reader|flood|mason|packed) = new .*;");
            due.is("made anew: " + line, made, made && (field || constructor));
        }
    }

    private static void lengths(Due due, String source) {
        int from = 0;
        String[] lines = source.split("\n");
        for (int i = 0; i < lines.length; i++) {
            if (lines[i].matches("    (    )?[\\w ]+ ?[\\w\\[\\]]*\\(.*\\) \\{")) {
                from = i;
            }
            if (lines[i].matches("    (    )?\\}")) {
                due.is("the method at line " + (from + 1) + " is short", i - from <= 60, true);
            }
        }
    }
}
