import java.util.ArrayDeque;
import java.util.ArrayList;
import java.util.Arrays;
import java.util.Deque;
import java.util.HashMap;
import java.util.LinkedHashMap;
import java.util.List;
import java.util.Map;
import java.util.Set;
import java.util.TreeMap;
import java.util.regex.Matcher;
import java.util.regex.Pattern;

/**
 * The document once more, as plainly as can be: texts as tokens, SUMS as functions, every FLOOD from
 * REACH 0 on, all stones tried. ModelTests asks it and a SiltShare the same.
 */
final class Model {
    /** A SUM or a TEST (1 or 0): its answer by what is asked. */
    interface Sum {
        long of(Map<String, Long> asked);
    }

    static final class Fault extends RuntimeException {
        private static final long serialVersionUID = 1;
        final int kind;
        final int place;

        Fault(int kind, int place) {
            this.kind = kind;
            this.place = place;
        }
    }

    record Token(String text, int from, boolean glued) {
        boolean isWord() {
            return text.matches("[a-z]+");
        }

        boolean isNumber() {
            return text.matches("[0-9]+");
        }
    }

    record Bank(String name, int owner, int colour, int place, int told, int size) {
    }

    static final Set<String> OWN = Set.of("river", "slope", "at", "owner", "colour", "bank", "of", "holds", "size", "cut", "settle",
        "rises", "joins", "ebb", "level", "flow", "held", "stones", "year", "place", "min", "max");

    /** What a text told. */
    static final class Told {
        int reaches;
        int statements;
        int rises = 10;
        int joins = 20;
        int ebb;
        int[] slope = new int[8];
        List<String> owners = new ArrayList<>();
        List<String> colours = new ArrayList<>();
        List<Bank> banks = new ArrayList<>();
        Sum cut;
        Sum settle;
    }

    /** Where all grains are. */
    static final class State {
        int year;
        int[] stones = new int[8];
        int[][] lying = new int[8][10];
        int[] held = new int[10];
        int[] gone = new int[10];

        State copy() {
            State it = new State();
            it.year = year;
            it.stones = stones.clone();
            for (int r = 0; r < 8; r++) {
                it.lying[r] = lying[r].clone();
            }
            it.held = held.clone();
            it.gone = gone.clone();
            return it;
        }
    }

    /** What a FLOOD would do. */
    static final class Would {
        int[] cut = new int[10];
        int[][] settled = new int[8][10];
        int[][] carried = new int[8][10];
    }

    byte[] tape = new byte[0];
    Told told = new Told();
    State now = new State();
    Deque<State> past = new ArrayDeque<>();
    int[] found;
    byte[] image = new byte[0];
    int[] refused = new int[6];
    long x = 1;
    int fault;
    int place = -1;

    // ---- texts

    private String text;
    private List<Token> tokens;
    private int next;
    private int open;
    private boolean asks;

    private void read(String it) {
        text = it;
        tokens = new ArrayList<>();
        next = 0;
        open = 0;
        Matcher m = Pattern.compile("[ \n]+|[a-z]+|[0-9]+|.", Pattern.DOTALL).matcher(it);
        boolean alnum = false;
        while (m.find()) {
            boolean is = m.group().matches("[a-z]+|[0-9]+");
            if (!m.group().isBlank() || !m.group().matches("[ \n]+")) {
                tokens.add(new Token(m.group(), m.start(), is && alnum));
            }
            alnum = is;
        }
    }

    private Token peek() {
        return next < tokens.size() ? tokens.get(next) : new Token("", text.length(), false);
    }

    private boolean isNext(String it) {
        return peek().text.equals(it) && !peek().glued;
    }

    private Token take(String it) {
        if (!isNext(it)) {
            throw new Fault(1, peek().from);
        }
        return tokens.get(next++);
    }

    private boolean may(String it) {
        if (!isNext(it)) {
            return false;
        }
        next++;
        return true;
    }

    private int number(int least, int most) {
        Token t = peek();
        if (!t.isNumber() || t.glued) {
            throw new Fault(1, t.from);
        }
        if (t.text.length() > 4) {
            throw new Fault(1, t.from + 4);
        }
        int n = Integer.parseInt(t.text);
        if (n < least || n > most) {
            throw new Fault(2, t.from);
        }
        next++;
        return n;
    }

    private Token name() {
        Token t = peek();
        if (!t.isWord() || t.glued || OWN.contains(t.text)) {
            throw new Fault(1, t.from);
        }
        if (t.text.length() > 6) {
            throw new Fault(1, t.from + 6);
        }
        next++;
        return t;
    }

    private String given(Told it) {
        Token t = name();
        boolean bank = it.banks.stream().anyMatch(b -> b.name.equals(t.text));
        if (it.owners.contains(t.text) || it.colours.contains(t.text) || bank) {
            throw new Fault(3, t.from);
        }
        return t.text;
    }

    private int asked(List<String> names) {
        Token t = name();
        if (!names.contains(t.text)) {
            throw new Fault(3, t.from);
        }
        return names.indexOf(t.text);
    }

    private static void room(boolean is, Token t) {
        if (!is) {
            throw new Fault(5, t.from);
        }
    }

    private Told tell() {
        Told it = new Told();
        while (next < tokens.size()) {
            Token t = peek();
            room(it.statements < 70, t);
            if (it.statements == 0) {
                take("river");
                it.reaches = number(3, 8);
            } else {
                statement(it, t);
            }
            take(";");
            it.statements++;
        }
        if (it.statements == 0) {
            throw new Fault(1, text.length());
        }
        return it;
    }

    private void statement(Told it, Token t) {
        if (may("slope")) {
            int n = number(0, 9);
            take("at");
            it.slope[number(0, it.reaches - 1)] = n;
        } else if (may("owner")) {
            room(it.owners.size() < 5, t);
            it.owners.add(given(it));
        } else if (may("colour")) {
            room(it.colours.size() < 5, t);
            it.colours.add(given(it));
        } else if (may("bank")) {
            room(it.banks.size() < 10, t);
            String name = given(it);
            take("of");
            int owner = asked(it.owners);
            take("colour");
            int colour = asked(it.colours);
            take("at");
            int at = number(0, it.reaches - 1);
            take("holds");
            int holds = number(0, 99);
            take("size");
            it.banks.add(new Bank(name, owner, colour, at, holds, number(1, 9)));
        } else if (may("cut")) {
            room(it.cut == null, t);
            asks = false;
            it.cut = sum();
        } else if (may("settle")) {
            room(it.settle == null, t);
            asks = false;
            it.settle = sum();
        } else if (may("rises")) {
            it.rises = number(1, 99);
        } else if (may("joins")) {
            it.joins = number(1, 99);
        } else {
            take("ebb");
            it.ebb = number(0, 50);
        }
    }

    private static long held(long n) {
        return n > 1000000 ? 1000000 : n < -1000000 ? -1000000 : n;
    }

    private void enter(Token t) {
        if (open == 6) {
            throw new Fault(4, t.from);
        }
        open++;
    }

    private Sum sum() {
        Sum left = product();
        while (true) {
            Sum a = left;
            if (may("+")) {
                Sum b = product();
                left = q -> held(a.of(q) + b.of(q));
            } else if (may("-")) {
                Sum b = product();
                left = q -> held(a.of(q) - b.of(q));
            } else {
                return a;
            }
        }
    }

    private Sum product() {
        Sum left = part();
        while (true) {
            Sum a = left;
            if (may("*")) {
                Sum b = part();
                left = q -> held(a.of(q) * b.of(q));
            } else if (may("/")) {
                Sum b = part();
                left = q -> b.of(q) == 0 ? 0 : (long) Math.floor((double) a.of(q) / b.of(q));
            } else {
                return a;
            }
        }
    }

    private Sum part() {
        Token t = peek();
        if (t.isNumber()) {
            long n = number(0, 9999);
            return q -> n;
        }
        if (isNext("(")) {
            enter(take("("));
            Sum a = sum();
            take(")");
            open--;
            return a;
        }
        if (isNext("min") || isNext("max")) {
            next++;
            enter(take("("));
            Sum a = sum();
            take(",");
            Sum b = sum();
            take(")");
            open--;
            return t.text.equals("min") ? q -> Math.min(a.of(q), b.of(q)) : q -> Math.max(a.of(q), b.of(q));
        }
        if (asks && (isNext("lies") || isNext("holds"))) {
            enter(t);
            next++;
            Sum a = part();
            open--;
            return q -> q.getOrDefault(t.text + " " + a.of(q), 0L);
        }
        List<String> words = asks ? List.of("level", "taken", "sea") : List.of("level", "flow", "size", "held", "stones", "year", "place");
        if (t.glued || !words.contains(t.text)) {
            throw new Fault(1, t.from);
        }
        next++;
        return q -> q.get(t.text);
    }

    private Sum test() {
        Sum left = both();
        while (may("or")) {
            Sum a = left;
            Sum b = both();
            left = q -> a.of(q) + b.of(q) > 0 ? 1 : 0;
        }
        return left;
    }

    private Sum both() {
        Sum left = fact();
        while (may("and")) {
            Sum a = left;
            Sum b = fact();
            left = q -> a.of(q) + b.of(q) > 1 ? 1 : 0;
        }
        return left;
    }

    private Sum fact() {
        Token t = peek();
        if (isNext("not")) {
            enter(take("not"));
            Sum a = fact();
            open--;
            return q -> a.of(q) > 0 ? 0 : 1;
        }
        if (isNext("[")) {
            enter(take("["));
            Sum a = test();
            take("]");
            open--;
            return a;
        }
        if (isNext("all")) {
            next++;
            return q -> 1;
        }
        Sum a = sum();
        t = peek();
        if (!t.text.matches("[<>=]")) {
            throw new Fault(1, t.from);
        }
        next++;
        Sum b = sum();
        switch (t.text) {
            case "<": return q -> a.of(q) < b.of(q) ? 1 : 0;
            case ">": return q -> a.of(q) > b.of(q) ? 1 : 0;
            default: return q -> a.of(q) == b.of(q) ? 1 : 0;
        }
    }

    private String takeTape() {
        StringBuilder it = new StringBuilder();
        for (byte b : tape) {
            it.append((char) (b & 255));
        }
        tape = new byte[0];
        return it.toString();
    }

    // ---- the calls

    int feed(int... five) {
        if (tape.length + 20 > 1600) {
            refused[0]++;
            return -1;
        }
        byte[] more = Arrays.copyOf(tape, tape.length + 20);
        for (int i = 0; i < 20; i++) {
            more[tape.length + i] = (byte) (five[i / 4] >>> 24 - 8 * (i % 4));
        }
        tape = more;
        return tape.length;
    }

    boolean end(int n) {
        if (n < 0 || n > tape.length) {
            refused[0]++;
            return false;
        }
        tape = Arrays.copyOf(tape, n);
        return true;
    }

    int river() {
        try {
            read(takeTape());
            told = tell();
        } catch (Fault it) {
            fault = it.kind;
            place = it.place;
            refused[1]++;
            return -1;
        }
        fault = 0;
        place = -1;
        now = new State();
        for (int b = 0; b < banks(); b++) {
            now.held[b] = told.banks.get(b).told;
        }
        past.clear();
        found = null;
        return told.statements;
    }

    int fault(int what) {
        return what == 0 ? fault : what == 1 ? place : -1;
    }

    int banks() {
        return told.banks.size();
    }

    private static int sumOf(int... row) {
        return Arrays.stream(row).sum();
    }

    private static int sumOf(int[][] rows) {
        return Arrays.stream(rows).mapToInt(Model::sumOf).sum();
    }

    int has(int what) {
        int[] all = {told.reaches, told.owners.size(), told.colours.size(), banks(), told.rises, told.joins, told.ebb, now.year,
            sumOf(now.stones), sumOf(now.held), sumOf(now.lying), sumOf(now.gone), past.size()};
        return what < 0 || what > 12 ? -1 : all[what];
    }

    int letter(int kind, int which, int k) {
        if (kind < 0 || kind > 2) {
            return -1;
        }
        List<String> names = kind == 0 ? told.owners : kind == 1 ? told.colours : told.banks.stream().map(Bank::name).toList();
        if (which < 0 || which >= names.size() || k < 0 || k > 5) {
            return -1;
        }
        return k < names.get(which).length() ? names.get(which).charAt(k) - 96 : 0;
    }

    private boolean noBank(int b) {
        return b < 0 || b >= banks();
    }

    private boolean noReach(int r) {
        return r < 0 || r >= told.reaches;
    }

    private boolean noOwner(int o) {
        return o < 0 || o >= told.owners.size();
    }

    private static boolean noLevel(int level) {
        return level < 0 || level > 9;
    }

    int bank(int b, int what) {
        if (noBank(b) || what < 0 || what > 6) {
            return -1;
        }
        Bank it = told.banks.get(b);
        int lie = 0;
        for (int[] row : now.lying) {
            lie += row[b];
        }
        return new int[] {it.owner, it.colour, it.place, it.size, now.held[b], lie, now.gone[b]}[what];
    }

    private int owned(State s, int r, int o) {
        int n = 0;
        for (int b = 0; b < banks(); b++) {
            n += told.banks.get(b).owner == o ? s.lying[r][b] : 0;
        }
        return n;
    }

    private int majority(State s, int r) {
        for (int o = 0; o < told.owners.size(); o++) {
            if (owned(s, r, o) > sumOf(s.lying[r]) - owned(s, r, o)) {
                return o;
            }
        }
        return -1;
    }

    /** The LAND of each REACH: numbers that are like in one LAND alone; -1 of no ISLAND. */
    private int[] lands() {
        int[] land = new int[told.reaches];
        for (int r = 0; r < told.reaches; r++) {
            int here = sumOf(now.lying[r]);
            if (here < told.rises) {
                land[r] = -1;
            } else if (r > 0 && land[r - 1] >= 0 && here + sumOf(now.lying[r - 1]) >= told.joins) {
                land[r] = land[r - 1];
            } else {
                land[r] = r;
            }
        }
        return land;
    }

    int reach(int r, int what) {
        if (noReach(r) || what < 0 || what > 7) {
            return -1;
        }
        int[] land = lands();
        int last = -1;
        Map<Integer, Integer> votes = new TreeMap<>();
        for (int i = 0; i < told.reaches; i++) {
            if (land[i] == land[r] && land[r] >= 0) {
                last = i;
                for (int o = 0; o < told.owners.size(); o++) {
                    votes.merge(o, owned(now, i, o), Integer::sum);
                }
            }
        }
        int vote = -1;
        for (int o : votes.keySet()) {
            vote = vote < 0 || votes.get(o) > votes.get(vote) ? o : vote;
        }
        return new int[] {told.slope[r], now.stones[r], sumOf(now.lying[r]), land[r] >= 0 ? 1 : 0, majority(now, r), land[r], last, vote}[what];
    }

    int lies(int r, int b) {
        return noReach(r) || noBank(b) ? -1 : now.lying[r][b];
    }

    int share(State s, int r, int o) {
        int all = sumOf(s.lying[r]);
        return all == 0 ? 0 : 1000 * owned(s, r, o) / all;
    }

    int share(int r, int o) {
        return noReach(r) || noOwner(o) ? -1 : share(now, r, o);
    }

    private int coloured(int r, int c) {
        int n = 0;
        for (int b = 0; b < banks(); b++) {
            n += told.banks.get(b).colour == c ? now.lying[r][b] : 0;
        }
        return n;
    }

    int tint(int r, int c) {
        return noReach(r) || c < 0 || c >= told.colours.size() ? -1 : coloured(r, c);
    }

    private int flow(State s, int r, int level) {
        return Math.max(0, level + told.slope[r] - 3 * s.stones[r]);
    }

    int flow(int r, int level) {
        return noReach(r) || noLevel(level) ? -1 : flow(now, r, level);
    }

    private Would would(State s, int level) {
        Would it = new Would();
        int[] carries = new int[10];
        for (int r = 0; r < told.reaches && level > 0; r++) {
            Map<String, Long> q = new HashMap<>();
            q.put("level", (long) level);
            q.put("flow", (long) flow(s, r, level));
            q.put("stones", (long) s.stones[r]);
            q.put("year", (long) s.year);
            q.put("place", (long) r);
            for (int b = 0; b < banks(); b++) {
                if (told.banks.get(b).place == r && told.cut != null) {
                    q.put("size", (long) told.banks.get(b).size);
                    q.put("held", (long) s.held[b]);
                    it.cut[b] = (int) Math.min(s.held[b], Math.max(0, told.cut.of(q)));
                    carries[b] += it.cut[b];
                }
            }
            for (int b = 0; b < banks(); b++) {
                q.put("size", (long) told.banks.get(b).size);
                q.put("held", (long) carries[b]);
                long falls = told.settle != null ? told.settle.of(q) : told.banks.get(b).size > flow(s, r, level) ? 99999 : 0;
                it.settled[r][b] = (int) Math.min(carries[b], Math.max(0, falls));
                carries[b] -= it.settled[r][b];
                it.carried[r][b] = carries[b];
            }
        }
        return it;
    }

    /** The state behind a FLOOD that would be, without INTEREST. */
    State behind(State s, int level) {
        State it = s.copy();
        Would w = would(s, level);
        for (int b = 0; b < banks(); b++) {
            it.held[b] -= w.cut[b];
            it.gone[b] += w.carried[told.reaches - 1][b];
            for (int r = 0; r < told.reaches; r++) {
                it.lying[r][b] += w.settled[r][b];
            }
        }
        return it;
    }

    private State yearBehind(State s, int level) {
        State it = behind(s, level);
        for (int r = 0; r < told.reaches; r++) {
            for (int b = 0; b < banks(); b++) {
                int goes = (int) Math.floor(it.lying[r][b] * told.ebb / 100.0 + 1e-9);
                it.lying[r][b] -= goes;
                it.gone[b] += goes;
            }
        }
        it.year++;
        return it;
    }

    int cuts(int b, int level) {
        return noBank(b) || noLevel(level) ? -1 : would(now, level).cut[b];
    }

    int settles(int r, int b, int level) {
        return noReach(r) || noBank(b) || noLevel(level) ? -1 : would(now, level).settled[r][b];
    }

    int carries(int r, int b, int level) {
        return noReach(r) || noBank(b) || noLevel(level) ? -1 : would(now, level).carried[r][b];
    }

    int would(int level, int what) {
        if (told.reaches == 0 || noLevel(level) || what < 0 || what > 3) {
            return -1;
        }
        Would w = would(now, level);
        int best = -1;
        for (int r = told.reaches - 1; r >= 0; r--) {
            if (sumOf(w.settled[r]) > 0 && (best < 0 || sumOf(w.settled[r]) >= sumOf(w.settled[best]))) {
                best = r;
            }
        }
        return new int[] {sumOf(w.cut), sumOf(w.settled), sumOf(w.carried[told.reaches - 1]), best}[what];
    }

    private void act() {
        past.push(now.copy());
        if (past.size() > 20) {
            past.removeLast();
        }
    }

    private int year(int level) {
        int settled = sumOf(would(now, level).settled);
        now = yearBehind(now, level);
        return settled;
    }

    int flood(int level) {
        if (told.reaches == 0 || noLevel(level) || now.year == 999) {
            refused[2]++;
            return -1;
        }
        act();
        return year(level);
    }

    int years(int n) {
        if (told.reaches == 0 || n < 1 || n > 50 || now.year + n > 999) {
            refused[2]++;
            return -1;
        }
        act();
        int all = 0;
        for (int i = 0; i < n; i++) {
            x = (1103515245L * x + 12345) % 2147483648L;
            all += year((int) (x / 64 % 10));
        }
        return all;
    }

    boolean stone(int r, boolean is) {
        if (noReach(r) || now.stones[r] == (is ? 3 : 0)) {
            refused[3]++;
            return false;
        }
        act();
        now.stones[r] += is ? 1 : -1;
        return true;
    }

    boolean rake(int r, int b, int other, int n) {
        if (noReach(r) || noBank(b) || noBank(other) || b == other || n < 1 || now.lying[r][b] < n) {
            refused[3]++;
            return false;
        }
        act();
        now.lying[r][b] -= n;
        now.lying[r][other] += n;
        return true;
    }

    boolean undo() {
        if (past.isEmpty()) {
            refused[4]++;
            return false;
        }
        now = past.pop();
        return true;
    }

    boolean seed(int seed) {
        if (seed < 0) {
            refused[5]++;
            return false;
        }
        x = seed;
        return true;
    }

    private interface Enough {
        boolean is(State behind);
    }

    /** All stones by their number, those of one number by REACHES. */
    private int sought(int level, int k, Enough enough) {
        List<int[]> all = new ArrayList<>();
        int n = (int) Math.pow(3, told.reaches);
        for (int i = 0; i < n; i++) {
            int[] stones = new int[8];
            int rest = i;
            for (int r = told.reaches - 1; r >= 0; r--) {
                stones[r] = rest % 3;
                rest /= 3;
            }
            all.add(stones);
        }
        all.sort((a, b) -> sumOf(a) != sumOf(b) ? sumOf(a) - sumOf(b) : Arrays.compare(a, b));
        for (int[] stones : all) {
            State s = now.copy();
            s.stones = stones;
            if (enough.is(behind(s, level))) {
                return k == -1 ? sumOf(stones) : stones[k];
            }
        }
        return -1;
    }

    int mine(int o, int r, int level, int share, int k) {
        if (noOwner(o) || noReach(r) || noLevel(level) || share < 0 || share > 1000 || k != -1 && noReach(k)) {
            return -1;
        }
        return sought(level, k, s -> share(s, r, o) >= share);
    }

    int keep(int b, int level, int grains, int k) {
        if (noBank(b) || noLevel(level) || grains < 0 || grains > 99 || k != -1 && noReach(k)) {
            return -1;
        }
        return sought(level, k, s -> s.held[b] >= grains);
    }

    int until(int o, int r, int level) {
        if (noOwner(o) || noReach(r) || noLevel(level)) {
            return -1;
        }
        State s = now;
        for (int n = 0; n <= 20 && s.year <= 999; n++) {
            if (majority(s, r) == o) {
                return n;
            }
            s = yearBehind(s, level);
        }
        return -1;
    }

    boolean find() {
        byte[] it = tape;
        tape = new byte[0];
        if (told.reaches == 0 || it.length != 2 * told.reaches) {
            return false;
        }
        found = new int[told.reaches];
        for (int r = 0; r < told.reaches; r++) {
            found[r] = (it[2 * r] & 255) * 256 + (it[2 * r + 1] & 255);
        }
        return true;
    }

    int levels() {
        if (found == null) {
            return -1;
        }
        int bits = 0;
        for (int level = 0; level < 10; level++) {
            State s = behind(now, level);
            boolean is = true;
            for (int r = 0; r < told.reaches; r++) {
                is &= sumOf(s.lying[r]) == found[r];
            }
            bits += is ? 1 << level : 0;
        }
        return bits;
    }

    int forged(int r) {
        byte[] it = tape;
        tape = new byte[0];
        if (noReach(r) || it.length != 2 * told.colours.size()) {
            return -1;
        }
        int above = 0;
        for (int c = 0; c < told.colours.size(); c++) {
            above += Math.max(0, (it[2 * c] & 255) * 256 + (it[2 * c + 1] & 255) - coloured(r, c));
        }
        return above;
    }

    long ask() {
        String question = takeTape();
        if (told.reaches == 0) {
            return -1000000000000000L;
        }
        String kind;
        Sum it;
        try {
            read(question);
            asks = true;
            Token t = peek();
            if (!List.of("first", "last", "often", "total", "most", "least").contains(t.text)) {
                throw new Fault(1, t.from);
            }
            next++;
            kind = t.text;
            it = List.of("first", "last", "often").contains(kind) ? test() : sum();
            if (next < tokens.size()) {
                throw new Fault(1, peek().from);
            }
        } catch (Fault f) {
            fault = f.kind;
            place = f.place;
            return -1000000000000000L;
        }
        fault = 0;
        place = -1;
        return answer(kind, it);
    }

    private long answer(String kind, Sum it) {
        Map<Integer, Long> by = new LinkedHashMap<>();
        for (int level = 0; level < 10; level++) {
            State s = behind(now, level);
            Map<String, Long> q = new HashMap<>();
            q.put("level", (long) level);
            q.put("taken", (long) would(level, 0));
            q.put("sea", (long) would(level, 2));
            for (int r = 0; r < told.reaches; r++) {
                q.put("lies " + r, (long) sumOf(s.lying[r]));
            }
            for (int b = 0; b < banks(); b++) {
                q.put("holds " + b, (long) s.held[b]);
            }
            by.put(level, it.of(q));
        }
        switch (kind) {
            case "first": return by.keySet().stream().filter(l -> by.get(l) == 1).findFirst().orElse(-1);
            case "last": return by.keySet().stream().filter(l -> by.get(l) == 1).reduce(-1, (a, b) -> b);
            case "often": return by.values().stream().filter(v -> v == 1).count();
            case "total": return by.values().stream().mapToLong(v -> v).sum();
            case "most": return by.values().stream().mapToLong(v -> v).max().getAsLong();
            default: return by.values().stream().mapToLong(v -> v).min().getAsLong();
        }
    }

    private byte[] imageNow() {
        List<Integer> it = new ArrayList<>(List.of(now.year / 256, now.year % 256));
        for (int r = 0; r < told.reaches; r++) {
            it.add(now.stones[r]);
            for (int b = 0; b < banks(); b++) {
                it.addAll(List.of(now.lying[r][b] / 256, now.lying[r][b] % 256));
            }
        }
        for (int b = 0; b < banks(); b++) {
            it.addAll(List.of(now.held[b], now.gone[b] / 256, now.gone[b] % 256));
        }
        int c = 173;
        for (int octet : it) {
            c = (3 * c + octet) % 251;
        }
        it.add(c);
        byte[] bytes = new byte[it.size()];
        for (int i = 0; i < bytes.length; i++) {
            bytes[i] = (byte) (int) it.get(i);
        }
        return bytes;
    }

    int image() {
        image = imageNow();
        return image.length;
    }

    int octet(int k) {
        return k < 0 || k >= image.length ? -1 : image[k] & 255;
    }

    boolean on() {
        byte[] it = tape;
        tape = new byte[0];
        State s = stateOf(it);
        if (s == null) {
            refused[5]++;
            return false;
        }
        now = s;
        past.clear();
        return true;
    }

    /** The state that an IMAGE tells; null when it is none. */
    private State stateOf(byte[] it) {
        if (told.reaches == 0 || it.length != imageNow().length) {
            return null;
        }
        ArrayDeque<Integer> rest = new ArrayDeque<>();
        int c = 173;
        for (int i = 0; i < it.length; i++) {
            rest.add(it[i] & 255);
            c = i < it.length - 1 ? (3 * c + (it[i] & 255)) % 251 : c;
        }
        State s = new State();
        s.year = rest.poll() * 256 + rest.poll();
        boolean is = s.year < 1000;
        int all = 0;
        for (int r = 0; r < told.reaches; r++) {
            s.stones[r] = rest.poll();
            is &= s.stones[r] < 4;
            for (int b = 0; b < banks(); b++) {
                s.lying[r][b] = rest.poll() * 256 + rest.poll();
                all += s.lying[r][b];
            }
        }
        for (int b = 0; b < banks(); b++) {
            s.held[b] = rest.poll();
            s.gone[b] = rest.poll() * 256 + rest.poll();
            all += s.held[b] + s.gone[b];
        }
        is &= rest.poll() == c && all == told.banks.stream().mapToInt(Bank::told).sum();
        return is ? s : null;
    }

    int status(int what) {
        return what < 0 || what > 5 ? -1 : refused[what];
    }
}
