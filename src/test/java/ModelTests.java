import java.util.ArrayList;
import java.util.List;
import java.util.Random;
import java.util.regex.Matcher;
import java.util.regex.Pattern;

/** All promises: the class and the plain Model are asked the same, by drawn texts and calls. */
public final class ModelTests {
    private static final int RUNS = 500;
    private static final int CALLS = 512;

    private final Random random;
    private final Due due;
    private final int run;
    private final SiltShare x = new SiltShare();
    private final Model m = new Model();
    private final List<int[]> images = new ArrayList<>();
    private int deepest = 6;
    private int asked;

    private ModelTests(int run, Due due) {
        this.run = run;
        this.due = due;
        random = new Random(run);
    }

    public static void main(String[] args) {
        Due due = new Due("ModelTests");
        int runs = args.length > 0 ? Integer.parseInt(args[0]) : RUNS;
        for (int run = 0; run < runs; run++) {
            new ModelTests(run, due).go();
        }
        due.finish();
    }

    private int draw(int n) {
        return random.nextInt(n);
    }

    /** A number that mostly is less than n, and sometimes is none such. */
    private int about(int n) {
        if (draw(25) > 0) {
            return draw(n + 1) - (draw(20) == 0 ? 1 : 0);
        }
        int[] far = {-1, n, n + 1, -7, 1000, Integer.MAX_VALUE, Integer.MIN_VALUE};
        return far[draw(far.length)];
    }

    /** What later calls than the 512th answer is free. */
    private void is(String call, long got, long want) {
        asked++;
        if (asked <= CALLS) {
            due.is("run " + run + ": " + call, got, want);
        }
    }

    private void is(String call, boolean got, boolean want) {
        is(call, got ? 1 : 0, want ? 1 : 0);
    }

    private void go() {
        if (run % 3 == 0) {
            seekOnly();
            return;
        }
        if (draw(10) == 0) {
            calls(20);
        }
        for (int i = draw(6); i >= 0 && asked < CALLS; i--) {
            tellRiver();
            calls(m.told.reaches == 0 ? 2 : 20 + draw(60));
        }
    }

    private void feed(int... bytes) {
        is("end", x.end(0), m.end(0));
        for (int i = 0; i < bytes.length; i += 20) {
            int[] five = new int[5];
            for (int k = 0; k < 20; k++) {
                five[k / 4] |= (i + k < bytes.length ? bytes[i + k] & 255 : draw(256)) << 24 - 8 * (k % 4);
            }
            is("feed", x.feed(five[0], five[1], five[2], five[3], five[4]), m.feed(five));
        }
        is("end", x.end(bytes.length), m.end(bytes.length));
    }

    private void feed(String text) {
        int[] bytes = new int[text.length()];
        for (int i = 0; i < bytes.length; i++) {
            bytes[i] = text.charAt(i);
        }
        feed(bytes);
    }

    private String spoiled(String text) {
        deepest = draw(5) == 0 ? 7 : 6;
        if (draw(3) > 0) {
            return text;
        }
        StringBuilder it = new StringBuilder(text);
        String[] bits = {" ", "\n", ";", "(", ")", "[", "7", "12345", "a", "at", "river", "min", "max(", "<", "not ", "lies ", "cut 1;", "*", "x", "@"};
        for (int i = draw(3); i >= 0 && it.length() > 0; i--) {
            int at = draw(it.length());
            switch (draw(6)) {
                case 0: it.deleteCharAt(at); break;
                case 3: anotherNumber(it); break;
                case 4: anotherNumber(it); break;
                case 1: it.insert(at, bits[draw(bits.length)]); break;
                case 2: it.replace(at, at + 1, bits[draw(bits.length)]); break;
                default: it.setLength(draw(4) > 0 ? at : it.length()); break;
            }
        }
        return it.toString();
    }

    private void anotherNumber(StringBuilder it) {
        Matcher m = Pattern.compile("[0-9]+").matcher(it);
        if (m.find(draw(it.length()))) {
            int[] numbers = {0, 1, 3, 6, 9, 10, 50, 51, 99, 100, 9999, 10000};
            it.replace(m.start(), m.end(), "" + numbers[draw(numbers.length)]);
        }
    }

    private String gap() {
        String[] gaps = {" ", " ", " ", "\n", "  ", " \n "};
        return gaps[draw(gaps.length)];
    }

    private String sum(int depth, boolean asks) {
        StringBuilder it = new StringBuilder(product(depth, asks));
        while (draw(3) == 0) {
            it.append(draw(2) == 0 ? "+" : "-").append(product(depth, asks));
        }
        return it.toString();
    }

    private String product(int depth, boolean asks) {
        StringBuilder it = new StringBuilder(part(depth, asks));
        while (draw(3) == 0) {
            it.append(draw(2) == 0 ? "*" : "/").append(part(depth, asks));
        }
        return it.toString();
    }

    private String part(int depth, boolean asks) {
        String[] rivers = {"level", "flow", "size", "held", "stones", "year", "place"};
        String[] questions = {"level", "taken", "sea"};
        int which = draw(depth < deepest ? 8 : 4);
        switch (which) {
            case 0: case 1: return "" + draw(draw(3) == 0 ? 10000 : 12);
            case 2: case 3: return asks ? questions[draw(3)] : rivers[draw(7)];
            case 4: return "(" + sum(depth + 1, asks) + ")";
            case 5: case 6:
                if (asks) {
                    return (draw(2) == 0 ? "lies" : "holds") + gap() + part(depth + 1, true);
                }
                return part(depth, false);
            default: return (draw(2) == 0 ? "min" : "max") + "(" + sum(depth + 1, asks) + "," + sum(depth + 1, asks) + ")";
        }
    }

    private String fact(int depth) {
        switch (draw(depth < deepest ? 6 : 3)) {
            case 0: return "all";
            case 1: case 2: return sum(depth, true) + "<>=".charAt(draw(3)) + sum(depth, true);
            case 3: return "not" + gap() + fact(depth + 1);
            default: return "[" + test(depth + 1) + "]";
        }
    }

    private String test(int depth) {
        StringBuilder it = new StringBuilder(fact(depth));
        while (draw(3) == 0) {
            it.append(draw(2) == 0 ? " or " : " and ").append(fact(depth));
        }
        return it.toString();
    }

    private void tellRiver() {
        StringBuilder it = new StringBuilder("river" + gap() + (3 + draw(draw(4) == 0 ? 6 : 3)) + ";");
        int owners = draw(12) == 0 ? draw(7) : 1 + draw(3);
        int colours = draw(12) == 0 ? draw(7) : 1 + draw(3);
        int banks = owners * colours == 0 ? 0 : draw(12) == 0 ? draw(12) : 1 + draw(6);
        for (int i = 0; i < owners; i++) {
            it.append("owner ").append(name('a', i)).append(";");
        }
        for (int i = 0; i < colours; i++) {
            it.append("colour ").append(name('k', i)).append(gap()).append(";");
        }
        for (int i = 0; i < banks; i++) {
            it.append("bank ").append(name('u', i)).append(" of ").append(name('a', draw(owners))).append(" colour ")
                .append(name('k', draw(colours))).append(" at ").append(draw(3)).append(" holds ").append(draw(100))
                .append(" size ").append(1 + draw(9)).append(";");
        }
        rest(it);
        String text = spoiled(it.toString());
        feed(text.length() > 1600 ? text.substring(0, 1600) : text);
        is("river() of " + text, x.river(), m.river());
        is("fault(0) of " + text, x.fault(0), m.fault(0));
        is("fault(1) of " + text, x.fault(1), m.fault(1));
    }

    private void rest(StringBuilder it) {
        String[] others = {"rises ", "joins ", "ebb "};
        for (int i = draw(draw(8) == 0 ? 80 : 8); i > 0; i--) {
            if (draw(2) == 0) {
                it.append("slope ").append(draw(10)).append(" at ").append(draw(3)).append(";");
            } else {
                it.append(others[draw(3)]).append(1 + draw(20)).append(";");
            }
        }
        if (draw(8) > 0) {
            String[] cuts = {sum(draw(7), false), "level*" + (1 + draw(5)) + "+" + sum(4, false), "flow*" + (1 + draw(9)),
                "max(0,year-" + draw(20) + ")*(1+size/" + (1 + draw(9)) + ")", "size*level+year/4*place", "(9-level)*(2-stones)+held/9"};
            it.append("cut ").append(cuts[draw(cuts.length)]).append(";");
        }
        if (draw(3) > 0) {
            String[] settles = {sum(draw(7), false), "held/" + (1 + draw(4)) + "+stones*" + draw(4), "(size-flow)*held/" + (1 + draw(9)),
                "stones*" + (1 + draw(5)) + "+(place+year)*size/9", "held*stones/(place+1+level/3)", "max(1,9-flow)"};
            it.append("settle ").append(settles[draw(settles.length)]).append(";");
        }
    }

    private static String name(char first, int i) {
        return ("" + (char) (first + i % 5) + "qwerty").substring(0, 1 + i / 5 * 2);
    }

    private void calls(int n) {
        for (int i = 0; i < n && asked < CALLS; i++) {
            switch (draw(8)) {
                case 0: act(); break;
                case 1: act(); break;
                case 2: whatThereIs(); break;
                case 3: wouldBe(); break;
                case 4: seek(); break;
                case 5: question(); break;
                case 6: picture(); break;
                default: heaps(); break;
            }
        }
        for (int what = -1; what < 15; what++) {
            is("has(" + what + ")", x.has(what), m.has(what));
            is("status(" + what + ")", x.status(what), m.status(what));
        }
    }

    private void act() {
        int a = about(10);
        int r = about(m.told.reaches);
        int b = about(m.banks());
        int c = about(m.banks());
        switch (draw(9)) {
            case 0: case 1: case 2: is("flood(" + a + ")", x.flood(a), m.flood(a)); break;
            case 3:
                a = draw(12) == 0 ? about(51) : draw(4);
                is("years(" + a + ")", x.years(a), m.years(a));
                break;
            case 4: is("stone(" + r + ")", x.stone(r, a < 7), m.stone(r, a < 7)); break;
            case 5: is("stone(" + r + ")", x.stone(r, a < 4), m.stone(r, a < 4)); break;
            case 6: is("rake", x.rake(r, b, c, a), m.rake(r, b, c, a)); break;
            case 7: is("undo", x.undo(), m.undo()); break;
            default:
                a = draw(6) == 0 ? about(99) : random.nextInt();
                is("seed(" + a + ")", x.seed(a), m.seed(a));
                break;
        }
    }

    private void whatThereIs() {
        int r = about(m.told.reaches);
        int b = about(m.banks());
        int what = about(8);
        is("bank(" + b + ", " + what + ")", x.bank(b, what), m.bank(b, what));
        is("reach(" + r + ", " + what + ")", x.reach(r, what), m.reach(r, what));
        int kind = about(3);
        int k = about(6);
        is("letter(" + kind + ", " + b + ", " + k + ")", x.letter(kind, b, k), m.letter(kind, b, k));
        is("fault(" + k + ")", x.fault(k), m.fault(k));
    }

    private void heaps() {
        int r = about(m.told.reaches);
        int b = about(m.banks());
        int o = about(m.told.owners.size());
        is("lies(" + r + ", " + b + ")", x.lies(r, b), m.lies(r, b));
        is("share(" + r + ", " + o + ")", x.share(r, o), m.share(r, o));
        is("tint(" + r + ", " + o + ")", x.tint(r, o), m.tint(r, o));
        for (int i = 0; i < m.told.reaches; i++) {
            for (int what = 0; what < 8; what++) {
                is("reach(" + i + ", " + what + ")", x.reach(i, what), m.reach(i, what));
            }
        }
    }

    private void wouldBe() {
        int r = about(m.told.reaches);
        int b = about(m.banks());
        int level = about(10);
        int what = about(4);
        is("flow(" + r + ", " + level + ")", x.flow(r, level), m.flow(r, level));
        is("cuts(" + b + ", " + level + ")", x.cuts(b, level), m.cuts(b, level));
        is("settles(" + r + ", " + b + ", " + level + ")", x.settles(r, b, level), m.settles(r, b, level));
        is("carries(" + r + ", " + b + ", " + level + ")", x.carries(r, b, level), m.carries(r, b, level));
        is("would(" + level + ", " + what + ")", x.would(level, what), m.would(level, what));
    }

    private void seek() {
        int r = about(m.told.reaches);
        int o = about(m.told.owners.size());
        int b = about(m.banks());
        int level = about(10);
        switch (draw(5)) {
            case 0: mine(o, r, level); break;
            case 1: keep(b, level); break;
            case 2: is("until(" + o + ", " + r + ", " + level + ")", x.until(o, r, level), m.until(o, r, level)); break;
            case 3: find(level); break;
            default:
                int[] bytes = new int[2 * (draw(8) == 0 ? draw(6) : m.told.colours.size()) + (draw(20) == 0 ? 1 : 0)];
                for (int i = 0; i < bytes.length; i++) {
                    bytes[i] = i % 2 == 0 && draw(5) > 0 ? 0 : draw(256) >> draw(6);
                }
                feed(bytes);
                is("forged(" + r + ")", x.forged(r), m.forged(r));
                break;
        }
    }

    /** A RIVER whose stones and YEARS count for much, and what is sought in it. */
    private void seekOnly() {
        int reaches = 3 + draw(4);
        StringBuilder it = new StringBuilder("river " + reaches + ";owner a;owner b;owner c;colour d;ebb " + draw(2) * draw(51) + ";");
        for (int b = 0; b < 2 + draw(5); b++) {
            it.append("bank ").append(name('u', b)).append(" of ").append(name('a', draw(3))).append(" colour d at ")
                .append(draw(reaches)).append(" holds ").append(20 + draw(80)).append(" size ").append(1 + draw(9)).append(";");
        }
        String[] cuts = {"flow*" + (1 + draw(4)), "(3-stones)*" + (1 + draw(9)), "level+stones*7/size", "max(0,year-" + draw(12) + ")*size",
            "held/(2+stones)", "9-level+place"};
        String[] settles = {"stones*" + (1 + draw(9)) + "+place", "held*stones/" + (1 + draw(4)), "max(0,size-flow)*" + (1 + draw(9)),
            "held/(1+place)-stones*3", "(year+1)*stones+size/3", "held/2+stones*stones*4-flow"};
        it.append("cut ").append(cuts[draw(cuts.length)]).append(";");
        it.append(draw(5) == 0 ? "" : "settle " + settles[draw(settles.length)] + ";");
        feed(it.toString());
        is("river() of " + it, x.river(), m.river());
        for (int i = 0; i < 25 && asked < CALLS; i++) {
            int level = draw(10) == 0 ? 0 : 1 + draw(9);
            mine(draw(3), draw(reaches), level);
            keep(draw(m.banks()), level);
            int o = draw(3);
            int r = draw(reaches);
            is("until(" + o + ", " + r + ", " + level + ")", x.until(o, r, level), m.until(o, r, level));
            if (draw(3) == 0) {
                act();
            }
        }
    }

    private boolean isSmall() {
        return m.told.reaches < 7 || draw(10) == 0;
    }

    private boolean isGood(int o, int r, int b, int level) {
        return m.share(r, o) >= 0 && m.cuts(b, level) >= 0;
    }

    /** What a FLOOD would leave with drawn stones. */
    private Model.State behindStones(int level) {
        Model.State s = m.now.copy();
        for (int r = 0; r < m.told.reaches; r++) {
            s.stones[r] = draw(3);
        }
        return m.behind(s, level);
    }

    /** A SHARE that some stones give, or nearly. */
    private void mine(int o, int r, int level) {
        int share = about(1001);
        if (draw(4) > 0 && isGood(o, r, 0, level)) {
            share = m.share(behindStones(level), r, o) + draw(2);
        }
        for (int k = -1; k <= Math.min(m.told.reaches, 4) && isSmall(); k++) {
            String call = "mine(" + o + ", " + r + ", " + level + ", " + share + ", " + k + ")";
            is(call, x.mine(o, r, level, share, k), m.mine(o, r, level, share, k));
        }
    }

    private void keep(int b, int level) {
        int grains = about(100);
        if (draw(4) > 0 && isGood(0, 0, b, level)) {
            grains = behindStones(level).held[b] + draw(2);
        }
        for (int k = -1; k <= Math.min(m.told.reaches, 3) && isSmall(); k++) {
            String call = "keep(" + b + ", " + level + ", " + grains + ", " + k + ")";
            is(call, x.keep(b, level, grains, k), m.keep(b, level, grains, k));
        }
    }

    /** What a FLOOD of some LEVEL would leave, or nearly. */
    private void find(int level) {
        int[] bytes = new int[2 * (draw(8) == 0 ? draw(9) : m.told.reaches)];
        for (int i = 0; i + 1 < bytes.length; i += 2) {
            int lies = Math.max(0, m.reach(i / 2, 2));
            for (int b = 0; b < m.banks(); b++) {
                lies += Math.max(0, m.settles(i / 2, b, level));
            }
            lies += draw(20) == 0 ? 1 : 0;
            bytes[i] = lies >> 8;
            bytes[i + 1] = lies;
        }
        feed(bytes);
        is("find", x.find(), m.find());
        is("levels", x.levels(), m.levels());
    }

    private void question() {
        String[] kinds = {"first", "last", "often", "total", "most", "least"};
        int kind = draw(6);
        String text = spoiled(kinds[kind] + gap() + (kind < 3 ? test(draw(7)) : sum(draw(7), true)));
        if (draw(30) == 0) {
            tellRiver();
        }
        feed(text.length() > 1600 ? text.substring(0, 1600) : text);
        is("ask() of " + text, x.ask(), m.ask());
        is("fault(0) of " + text, x.fault(0), m.fault(0));
        is("fault(1) of " + text, x.fault(1), m.fault(1));
        is("levels", x.levels(), m.levels());
    }

    private void picture() {
        int length = m.image();
        is("image", x.image(), length);
        int[] bytes = new int[length];
        for (int k = 0; k < length; k++) {
            bytes[k] = m.octet(k);
            is("octet(" + k + ")", x.octet(k), bytes[k]);
        }
        is("octet(" + length + ")", x.octet(length), m.octet(length));
        images.add(bytes);
        if (draw(4) == 0) {
            int[] then = images.get(draw(images.size())).clone();
            if (draw(3) == 0 && then.length > 3) {
                then[draw(then.length)] += 1 - draw(3);
                int c = 173;
                for (int k = 0; k < then.length - 1; k++) {
                    c = (3 * c + (then[k] & 255)) % 251;
                }
                then[then.length - 1] = draw(3) == 0 ? then[then.length - 1] : c;
            }
            feed(then);
            is("on", x.on(), m.on());
            is("undo", x.undo(), m.undo());
        }
    }
}
