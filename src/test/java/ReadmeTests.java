import java.io.IOException;
import java.nio.file.Files;
import java.nio.file.Path;
import java.util.ArrayList;
import java.util.List;

/** The calls that README.md tells, in its order: each answers what the page says. */
public final class ReadmeTests {
    private final Due due = new Due("ReadmeTests");
    private final List<String> lines = new ArrayList<>();
    private int next;

    private ReadmeTests() throws IOException {
        boolean code = false;
        for (String line : Files.readString(Path.of("README.md")).split("\n")) {
            if (line.startsWith("```")) {
                code = line.equals("```java");
            } else if (code && !line.startsWith("//")) {
                lines.add(line);
            }
        }
    }

    public static void main(String[] args) throws IOException {
        ReadmeTests page = new ReadmeTests();
        SiltShare x = page.river();
        page.floods(x);
        page.sought(x);
        page.questions(x);
        page.images(x);
        page.refusals(x);
        page.end();
    }

    private SiltShare river() {
        helper();
        SiltShare x = new SiltShare();
        code("SiltShare x = new SiltShare();");
        String[] parts = {"river 4; slope 2 at 0; owner ann; owner bob; colour red; colour blue;",
            " bank up of ann colour red at 0 holds 60 size 4;", " bank low of bob colour blue at 2 holds 40 size 2;",
            " cut flow * 4; settle size * 2; rises 5; joins 12; ebb 10;"};
        code("tell(x, \"" + parts[0] + "\"");
        for (int i = 1; i < parts.length; i++) {
            code("    + \"" + parts[i] + "\"" + (i == parts.length - 1 ? ");" : ""));
        }
        tell(x, String.join("", parts));
        answer("x.river();", x.river());
        answer("x.has(3);", x.has(3));
        answer("x.letter(0, 1, 0);", x.letter(0, 1, 0));
        answer("x.bank(0, 4);", x.bank(0, 4));
        answer("x.reach(0, 0);", x.reach(0, 0));
        toldText(x, "river 4; slope 2 at 4;");
        answer("x.river();", x.river());
        answer("x.fault(0);", x.fault(0));
        answer("x.fault(1);", x.fault(1));
        return x;
    }

    private void floods(SiltShare x) {
        answer("x.flow(0, 3);", x.flow(0, 3));
        answer("x.cuts(0, 3);", x.cuts(0, 3));
        answer("x.settles(1, 0, 3);", x.settles(1, 0, 3));
        answer("x.carries(1, 0, 3);", x.carries(1, 0, 3));
        answer("x.would(3, 2);", x.would(3, 2));
        answer("x.flood(3);", x.flood(3));
        answer("x.has(7);", x.has(7));
        answer("x.stone(1, true);", x.stone(1, true));
        answer("x.rake(1, 0, 1, 3);", x.rake(1, 0, 1, 3));
        answer("x.lies(1, 1);", x.lies(1, 1));
        answer("x.seed(7);", x.seed(7));
        answer("x.years(5);", x.years(5));
        answer("x.has(12);", x.has(12));
        answer("x.undo();", x.undo());
        answer("x.undo();", x.undo());
        answer("x.undo();", x.undo());
        answer("x.share(2, 1);", x.share(2, 1));
        answer("x.tint(3, 1);", x.tint(3, 1));
        answer("x.reach(3, 4);", x.reach(3, 4));
        answer("x.reach(1, 6);", x.reach(1, 6));
        answer("x.reach(1, 7);", x.reach(1, 7));
    }

    private void sought(SiltShare x) {
        answer("x.mine(1, 2, 5, 600, -1);", x.mine(1, 2, 5, 600, -1));
        answer("x.mine(1, 2, 5, 600, 0);", x.mine(1, 2, 5, 600, 0));
        answer("x.keep(0, 3, 40, -1);", x.keep(0, 3, 40, -1));
        answer("x.until(1, 2, 3);", x.until(1, 2, 3));
        code("tell(x, \"\\0\\20\\0\\20\\0\\14\\0\\10\"); // 16, 16, 12 and 8");
        tell(x, "\0\20\0\20\0\14\0\10");
        answer("x.find();", x.find());
        answer("x.levels();", x.levels());
        code("tell(x, \"\\0\\6\\0\\3\");        // 6 and 3");
        tell(x, "\0\6\0\3");
        answer("x.forged(2);", x.forged(2));
    }

    private void questions(SiltShare x) {
        for (String question : new String[] {"first lies 2 > 12", "most holds 0 / 2 - sea", "often not sea = 0 or level < 2", "total taken +"}) {
            toldText(x, question);
            answer("x.ask();", x.ask());
        }
        answer("x.fault(1);", x.fault(1));
    }

    private void images(SiltShare x) {
        code("StringBuilder image = new StringBuilder();");
        code("for (int k = 0, n = x.image(); k < n; k++) {");
        code("    image.append((char) x.octet(k));");
        code("}");
        StringBuilder image = new StringBuilder();
        for (int k = 0, n = x.image(); k < n; k++) {
            image.append((char) x.octet(k));
        }
        answer("x.flood(9);", x.flood(9));
        code("tell(x, image.toString());");
        tell(x, image.toString());
        answer("x.on();", x.on());
        answer("x.has(7);", x.has(7));
        answer("x.has(12);", x.has(12));
    }

    private void refusals(SiltShare x) {
        answer("x.flood(10);", x.flood(10));
        answer("x.stone(7, true);", x.stone(7, true));
        answer("x.lies(0, 9);", x.lies(0, 9));
        answer("x.status(2);", x.status(2));
        answer("x.status(3);", x.status(3));
        answer("x.status(1);", x.status(1));
    }

    private void end() {
        due.is("calls that README.md tells beyond these", lines.size() - next, 0);
        due.finish();
    }

    /** The page's own way to put a text on the tape, line by line as below. */
    private void helper() {
        code("/** Puts a text of signs 0 to 255 on an empty tape. */");
        code("static void tell(SiltShare x, String text) {");
        code("    x.end(0);");
        code("    for (int at = 0; at < text.length(); at += 20) {");
        code("        int[] five = new int[5];");
        code("        for (int k = at; k < at + 20; k++) {");
        code("            int i = (k - at) / 4;");
        code("            five[i] = five[i] << 8 | (k < text.length() ? text.charAt(k) : 0);");
        code("        }");
        code("        x.feed(five[0], five[1], five[2], five[3], five[4]);");
        code("    }");
        code("    x.end(text.length());");
        code("}");
    }

    private static void tell(SiltShare x, String text) {
        x.end(0);
        for (int at = 0; at < text.length(); at += 20) {
            int[] five = new int[5];
            for (int k = at; k < at + 20; k++) {
                int i = (k - at) / 4;
                five[i] = five[i] << 8 | (k < text.length() ? text.charAt(k) : 0);
            }
            x.feed(five[0], five[1], five[2], five[3], five[4]);
        }
        x.end(text.length());
    }

    private void toldText(SiltShare x, String text) {
        code("tell(x, \"" + text + "\");");
        tell(x, text);
    }

    private void code(String code) {
        String line = line();
        due.is("README.md's line " + line + " is " + code, line.equals(code), true);
    }

    private void answer(String code, Object answer) {
        String line = line();
        boolean is = line.startsWith(code) && line.substring(code.length()).matches(" +// " + answer + "(:.*)?");
        due.is(code + " answers " + answer + " and README.md's line is " + line, is, true);
    }

    private String line() {
        next++;
        return next <= lines.size() ? lines.get(next - 1) : "";
    }
}
