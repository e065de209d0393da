/**
 * Silt rights: a river told as a text, the floods that cut its banks and lay their grains down
 * reach by reach, and whose is what lies there.
 *
 * All rows are made with the object and used again: no call makes an object or an array.
 */
public final class SiltShare {
    public static final int NONE = -1;
    public static final long NOTHING = -1000000000000000L;

    private static final int TAPE = 1600;
    private static final int FED = 20;
    private static final int STATEMENTS = 70;
    private static final int REACHES = 8;
    private static final int OWNERS = 5;
    private static final int COLOURS = 5;
    private static final int BANKS = 10;
    private static final int LETTERS = 6;
    private static final int DIGITS = 4;
    private static final int OPEN = 6;
    private static final int LEVELS = 10;
    private static final int YEARS = 999;
    private static final int YEARS_AT_ONCE = 50;
    private static final int STONES = 3;
    private static final int TRIED_STONES = 2;
    private static final int FLOODS_AHEAD = 20;
    private static final int ACTS = 20;
    private static final int WHOLE_SHARE = 1000;
    private static final int TOLD_GRAINS = 99;
    private static final int BOUND = 1000000;
    private static final int IMAGE = 2 + REACHES * (1 + 2 * BANKS) + 3 * BANKS + 1;

    private static final int FAULT_TEXT = 1;
    private static final int FAULT_NUMBER = 2;
    private static final int FAULT_NAME = 3;
    private static final int FAULT_DEEP = 4;
    private static final int FAULT_MANY = 5;

    private static final int TAPE_CALLS = 0;
    private static final int RIVER_CALLS = 1;
    private static final int YEAR_CALLS = 2;
    private static final int HAND_CALLS = 3;
    private static final int UNDO_CALLS = 4;
    private static final int SET_CALLS = 5;
    private static final int CALLS_REFUSED = 6;

    // Each word has a blank behind it, the last one too.
    private static final String OWN_WORDS =
        "river slope at owner colour bank of holds size cut settle rises joins ebb level flow held stones year place min max ";

    // The steps of a FORMULA: a number stands for itself, all else is below 0.
    private static final int ADD = -1;
    private static final int SUBTRACT = -2;
    private static final int MULTIPLY = -3;
    private static final int DIVIDE = -4;
    private static final int LESSER = -5;
    private static final int GREATER = -6;
    private static final int BELOW = -7;
    private static final int ABOVE = -8;
    private static final int SAME = -9;
    private static final int AND = -10;
    private static final int OR = -11;
    private static final int NOT = -12;
    private static final int LYING = -13;
    private static final int HOLDING = -14;
    private static final int KNOWN = -20;

    // What a FORMULA asks: step KNOWN - n is the n-th of these.
    private static final int LEVEL = 0;
    private static final int FLOW = 1;
    private static final int SIZE = 2;
    private static final int HELD = 3;
    private static final int STONES_THERE = 4;
    private static final int YEAR = 5;
    private static final int PLACE = 6;
    private static final int TAKEN = 7;
    private static final int SEA = 8;
    private static final int ALL_KNOWN = 9;

    private static final int FIRST = 0;
    private static final int LAST = 1;
    private static final int OFTEN = 2;
    private static final int TOTAL = 3;
    private static final int MOST = 4;
    private static final int LEAST = 5;

    private final Text text = new Text();
    private final Formula question = new Formula();
    private final Grammar grammar = new Grammar(text, question);
    private final RiverReader reader;
    private River river = new River();
    private River spare = new River();
    private final Silt silt = new Silt();
    private final Silt trial = new Silt();
    private final Past past = new Past();
    private final Reckoner reckoner = new Reckoner();
    private final Flood flood;
    private final Mason mason;
    private final int[] found = new int[REACHES];
    private final int[] octets = new int[IMAGE];
    private final int[] refusals = new int[CALLS_REFUSED];
    private boolean isFound;
    private int written;
    private int drawn = 1;
    private int lastFault;
    private int lastPlace = NONE;

    public SiltShare() {
        reader = new RiverReader(text, grammar, spare);
        flood = new Flood(reckoner, river, silt);
        mason = new Mason(flood);
    }

    // ---- the tape and the texts on it

    public int feed(int a, int b, int c, int d, int e) {
        if (text.length + FED > TAPE) {
            return refuse(TAPE_CALLS);
        }
        text.append(a);
        text.append(b);
        text.append(c);
        text.append(d);
        text.append(e);
        return text.length;
    }

    public boolean end(int n) {
        if (n < 0 || n > text.length) {
            return refuseAct(TAPE_CALLS);
        }
        text.length = n;
        return true;
    }

    public int river() {
        text.begin();
        boolean is = reader.read(spare);
        keepFault();
        text.length = 0;
        if (!is) {
            return refuse(RIVER_CALLS);
        }
        River old = river;
        river = spare;
        spare = old;
        silt.clear(river);
        past.clear();
        isFound = false;
        return river.statements;
    }

    public int fault(int what) {
        switch (what) {
            case 0: return lastFault;
            case 1: return lastPlace;
            default: return NONE;
        }
    }

    // ---- what there is

    public int has(int what) {
        switch (what) {
            case 0: return river.reaches;
            case 1: return river.owners.count;
            case 2: return river.colours.count;
            case 3: return river.banks.count;
            case 4: return river.rises;
            case 5: return river.joins;
            case 6: return river.ebb;
            case 7: return silt.year;
            case 8: return total(silt.stones);
            case 9: return total(silt.held);
            case 10: return total(silt.lying);
            case 11: return total(silt.gone);
            case 12: return past.count;
            default: return NONE;
        }
    }

    public int letter(int kind, int which, int k) {
        switch (kind) {
            case 0: return river.owners.letterOf(which, k);
            case 1: return river.colours.letterOf(which, k);
            case 2: return river.banks.letterOf(which, k);
            default: return NONE;
        }
    }

    public int bank(int bank, int what) {
        if (!river.hasBank(bank)) {
            return NONE;
        }
        switch (what) {
            case 0: return river.owner[bank];
            case 1: return river.colour[bank];
            case 2: return river.place[bank];
            case 3: return river.size[bank];
            case 4: return silt.held[bank];
            case 5: return silt.lyingOf(bank);
            case 6: return silt.gone[bank];
            default: return NONE;
        }
    }

    public int reach(int reach, int what) {
        if (!river.hasReach(reach)) {
            return NONE;
        }
        switch (what) {
            case 0: return river.slope[reach];
            case 1: return silt.stones[reach];
            case 2: return silt.lyingIn(reach);
            case 3: return isIsland(reach) ? 1 : 0;
            case 4: return majority(reach);
            case 5: return isIsland(reach) ? landFrom(reach) : NONE;
            case 6: return isIsland(reach) ? landTo(reach) : NONE;
            case 7: return isIsland(reach) ? vote(landFrom(reach), landTo(reach)) : NONE;
            default: return NONE;
        }
    }

    public int lies(int reach, int bank) {
        if (!river.hasReach(reach) || !river.hasBank(bank)) {
            return NONE;
        }
        return silt.lying[cell(reach, bank)];
    }

    public int share(int reach, int owner) {
        if (!river.hasReach(reach) || !river.hasOwner(owner)) {
            return NONE;
        }
        return thousandths(silt.owned(river, reach, owner), silt.lyingIn(reach));
    }

    public int tint(int reach, int colour) {
        if (!river.hasReach(reach) || !river.hasColour(colour)) {
            return NONE;
        }
        return silt.coloured(river, reach, colour);
    }

    // ---- floods that would be

    public int flow(int reach, int level) {
        if (!river.hasReach(reach) || !isLevel(level)) {
            return NONE;
        }
        flood.aim(river, silt, level);
        return flood.flowIn(reach);
    }

    public int cuts(int bank, int level) {
        if (!river.hasBank(bank) || !isLevel(level)) {
            return NONE;
        }
        flood.aim(river, silt, level);
        return flood.cutOf(bank);
    }

    public int settles(int reach, int bank, int level) {
        if (!river.hasReach(reach) || !river.hasBank(bank) || !isLevel(level)) {
            return NONE;
        }
        imagine(level);
        return flood.settled[cell(reach, bank)];
    }

    public int carries(int reach, int bank, int level) {
        if (!river.hasReach(reach) || !river.hasBank(bank) || !isLevel(level)) {
            return NONE;
        }
        imagine(level);
        return flood.carried[cell(reach, bank)];
    }

    public int would(int level, int what) {
        if (river.reaches == 0 || !isLevel(level)) {
            return NONE;
        }
        imagine(level);
        switch (what) {
            case 0: return flood.taken();
            case 1: return flood.settledGrains();
            case 2: return flood.toSea();
            case 3: return flood.mostSettled();
            default: return NONE;
        }
    }

    // ---- acts

    public int flood(int level) {
        if (river.reaches == 0 || !isLevel(level) || silt.year >= YEARS) {
            return refuse(YEAR_CALLS);
        }
        past.store(silt);
        return passYear(silt, level);
    }

    public int years(int n) {
        if (river.reaches == 0 || n < 1 || n > YEARS_AT_ONCE || silt.year + n > YEARS) {
            return refuse(YEAR_CALLS);
        }
        past.store(silt);
        int grains = 0;
        for (int i = 0; i < n; i++) {
            grains += passYear(silt, draw(LEVELS));
        }
        return grains;
    }

    public boolean stone(int reach, boolean is) {
        if (!river.hasReach(reach)) {
            return refuseAct(HAND_CALLS);
        }
        int stones = silt.stones[reach] + (is ? 1 : -1);
        if (stones < 0 || stones > STONES) {
            return refuseAct(HAND_CALLS);
        }
        past.store(silt);
        silt.stones[reach] = stones;
        return true;
    }

    public boolean rake(int reach, int bank, int other, int n) {
        if (!river.hasReach(reach) || !river.hasBank(bank) || !river.hasBank(other) || bank == other) {
            return refuseAct(HAND_CALLS);
        }
        if (n < 1 || n > silt.lying[cell(reach, bank)]) {
            return refuseAct(HAND_CALLS);
        }
        past.store(silt);
        silt.lying[cell(reach, bank)] -= n;
        silt.lying[cell(reach, other)] += n;
        return true;
    }

    public boolean undo() {
        return past.giveBack(silt) || refuseAct(UNDO_CALLS);
    }

    public boolean seed(int seed) {
        if (seed < 0) {
            return refuseAct(SET_CALLS);
        }
        drawn = seed;
        return true;
    }

    // ---- stones, floods until, what is found

    public int mine(int owner, int reach, int level, int share, int k) {
        if (!river.hasOwner(owner) || !river.hasReach(reach) || !isLevel(level)
            || share < 0 || share > WHOLE_SHARE || !isStoneQuestion(k)) {
            return NONE;
        }
        flood.aim(river, silt, level);
        mason.seekShare(owner, reach, share);
        return mason.answer(k);
    }

    public int keep(int bank, int level, int grains, int k) {
        if (!river.hasBank(bank) || !isLevel(level) || grains < 0 || grains > TOLD_GRAINS
            || !isStoneQuestion(k)) {
            return NONE;
        }
        flood.aim(river, silt, level);
        mason.seekHeld(bank, grains);
        return mason.answer(k);
    }

    public int until(int owner, int reach, int level) {
        if (!river.hasOwner(owner) || !river.hasReach(reach) || !isLevel(level)) {
            return NONE;
        }
        trial.copy(silt);
        for (int floods = 0; floods <= FLOODS_AHEAD; floods++) {
            if (hasMajority(trial, reach, owner)) {
                return floods;
            }
            if (trial.year >= YEARS) {
                return NONE;
            }
            passYear(trial, level);
        }
        return NONE;
    }

    public boolean find() {
        boolean is = river.reaches > 0 && text.length == 2 * river.reaches;
        for (int r = 0; is && r < river.reaches; r++) {
            found[r] = text.twoAt(2 * r);
        }
        isFound = isFound || is;
        text.length = 0;
        return is;
    }

    public int levels() {
        if (!isFound) {
            return NONE;
        }
        int bits = 0;
        for (int level = 0; level < LEVELS; level++) {
            imagine(level);
            if (isAsFound()) {
                bits |= 1 << level;
            }
        }
        return bits;
    }

    public int forged(int reach) {
        boolean is = river.hasReach(reach) && text.length == 2 * river.colours.count;
        int above = is ? toldAbove(reach) : NONE;
        text.length = 0;
        return above;
    }

    // ---- questions

    public long ask() {
        if (river.reaches == 0) {
            text.length = 0;
            return NOTHING;
        }
        text.begin();
        int kind = grammar.question();
        keepFault();
        text.length = 0;
        if (lastFault != 0) {
            return NOTHING;
        }
        return answer(kind);
    }

    // ---- images, refusals

    public int image() {
        written = 0;
        writeTwo(silt.year);
        for (int r = 0; r < river.reaches; r++) {
            write(silt.stones[r]);
            for (int b = 0; b < river.banks.count; b++) {
                writeTwo(silt.lying[cell(r, b)]);
            }
        }
        for (int b = 0; b < river.banks.count; b++) {
            write(silt.held[b]);
            writeTwo(silt.gone[b]);
        }
        int check = 173;
        for (int k = 0; k < written; k++) {
            check = checkBehind(check, octets[k]);
        }
        write(check);
        return written;
    }

    public int octet(int k) {
        if (k < 0 || k >= written) {
            return NONE;
        }
        return octets[k];
    }

    public boolean on() {
        boolean is = isImage();
        text.length = 0;
        if (!is) {
            return refuseAct(SET_CALLS);
        }
        silt.copy(trial);
        past.clear();
        return true;
    }

    public int status(int what) {
        if (what < 0 || what >= refusals.length) {
            return NONE;
        }
        return refusals[what];
    }

    // ---- what the calls share

    private int refuse(int kind) {
        if (kind >= 0 && kind < refusals.length) {
            refusals[kind]++;
        }
        return NONE;
    }

    private boolean refuseAct(int kind) {
        refuse(kind);
        return false;
    }

    private void keepFault() {
        lastFault = text.fault;
        lastPlace = text.place;
    }

    private int draw(int m) {
        // The wrap-around of int leaves the lowest 31 bits as they are due.
        drawn = (1103515245 * drawn + 12345) & 0x7fffffff;
        return m < 1 ? 0 : drawn / 64 % m;
    }

    private void imagine(int level) {
        flood.aim(river, silt, level);
        flood.run(0, river.reaches - 1);
    }

    private int passYear(Silt there, int level) {
        flood.aim(river, there, level);
        flood.run(0, river.reaches - 1);
        flood.lay();
        there.payInterest(river.ebb);
        there.year++;
        return flood.settledGrains();
    }

    /** How many grains the tape tells above those that lie there, COLOUR by COLOUR. */
    private int toldAbove(int reach) {
        int above = 0;
        for (int c = 0; c < river.colours.count; c++) {
            above += Math.max(0, text.twoAt(2 * c) - silt.coloured(river, reach, c));
        }
        return above;
    }

    private boolean isStoneQuestion(int k) {
        return k == NONE || river.hasReach(k);
    }

    private boolean hasMajority(Silt there, int reach, int owner) {
        return 2 * there.owned(river, reach, owner) > there.lyingIn(reach);
    }

    private int majority(int reach) {
        for (int o = 0; o < river.owners.count; o++) {
            if (hasMajority(silt, reach, o)) {
                return o;
            }
        }
        return NONE;
    }

    private boolean isIsland(int reach) {
        return river.hasReach(reach) && silt.lyingIn(reach) >= river.rises;
    }

    /** Whether a REACH is JOINED to the one behind it. */
    private boolean isJoined(int reach) {
        return isIsland(reach) && isIsland(reach + 1)
            && silt.lyingIn(reach) + silt.lyingIn(reach + 1) >= river.joins;
    }

    private int landFrom(int reach) {
        int from = reach;
        while (from > 0 && isJoined(from - 1)) {
            from--;
        }
        return from;
    }

    private int landTo(int reach) {
        int to = reach;
        while (to < river.reaches && isJoined(to)) {
            to++;
        }
        return to;
    }

    private int vote(int from, int to) {
        int best = NONE;
        int most = NONE;
        for (int o = 0; o < river.owners.count; o++) {
            int grains = 0;
            for (int r = from; r <= to && r < river.reaches; r++) {
                grains += silt.owned(river, r, o);
            }
            if (grains > most) {
                most = grains;
                best = o;
            }
        }
        return best;
    }

    private boolean isAsFound() {
        for (int r = 0; r < river.reaches; r++) {
            if (flood.leftIn(r) != found[r]) {
                return false;
            }
        }
        return true;
    }

    private long answer(int kind) {
        int first = NONE;
        int last = NONE;
        int often = 0;
        long total = 0;
        int most = -BOUND;
        int least = BOUND;
        for (int level = 0; level < LEVELS; level++) {
            flood.aim(river, silt, level);
            flood.run(0, river.reaches - 1);
            flood.tellAll();
            int it = reckoner.reckon(question);
            if (it != 0) {
                first = often == 0 ? level : first;
                last = level;
                often++;
            }
            total += it;
            most = Math.max(most, it);
            least = Math.min(least, it);
        }
        switch (kind) {
            case FIRST: return first;
            case LAST: return last;
            case OFTEN: return often;
            case TOTAL: return total;
            case MOST: return most;
            default: return least;
        }
    }

    private void write(int octet) {
        if (written < octets.length) {
            octets[written] = octet & 255;
            written++;
        }
    }

    private void writeTwo(int number) {
        write(number >> 8);
        write(number);
    }

    /** Reads the tape into the trial state and tells whether that is one of this RIVER. */
    private boolean isImage() {
        int banks = river.banks.count;
        int length = 2 + river.reaches * (1 + 2 * banks) + 3 * banks + 1;
        if (river.reaches == 0 || text.length != length || !isChecked()) {
            return false;
        }
        readTrial(banks);
        for (int r = 0; r < river.reaches; r++) {
            if (trial.stones[r] > STONES) {
                return false;
            }
        }
        int grains = total(trial.lying) + total(trial.held) + total(trial.gone);
        return trial.year <= YEARS && grains == total(river.told);
    }

    private boolean isChecked() {
        int check = 173;
        for (int k = 0; k < text.length - 1; k++) {
            check = checkBehind(check, text.byteAt(k));
        }
        return check == text.byteAt(text.length - 1);
    }

    private void readTrial(int banks) {
        trial.clear(river);
        trial.year = text.twoAt(0);
        int at = 2;
        for (int r = 0; r < river.reaches; r++) {
            trial.stones[r] = text.byteAt(at);
            at++;
            for (int b = 0; b < banks; b++) {
                trial.lying[cell(r, b)] = text.twoAt(at);
                at += 2;
            }
        }
        for (int b = 0; b < banks; b++) {
            trial.held[b] = text.byteAt(at);
            trial.gone[b] = text.twoAt(at + 1);
            at += 3;
        }
    }

    private static int checkBehind(int check, int octet) {
        return (3 * check + octet) % 251;
    }

    private static int cell(int reach, int bank) {
        return reach * BANKS + bank;
    }

    private static int total(int[] row) {
        int sum = 0;
        for (int i = 0; i < row.length; i++) {
            sum += row[i];
        }
        return sum;
    }

    private static boolean isLevel(int level) {
        return level >= 0 && level < LEVELS;
    }

    private static int thousandths(int part, int all) {
        return all < 1 ? 0 : WHOLE_SHARE * part / all;
    }

    /** The number; the least or the greatest that may be, where it is below or above that. */
    private static int within(long number, int least, int greatest) {
        return number < least ? least : number > greatest ? greatest : (int) number;
    }

    /** The tape, and the reading of it as a text: the first FAULT stays. */
    private static final class Text {
        final byte[] bytes = new byte[TAPE];
        int length;
        int at;
        int token;
        int fault;
        int place = NONE;

        void append(int four) {
            for (int shift = 24; shift >= 0; shift -= 8) {
                if (length < bytes.length) {
                    bytes[length] = (byte) (four >> shift);
                    length++;
                }
            }
        }

        int byteAt(int k) {
            return k < 0 || k >= length || k >= bytes.length ? NONE : bytes[k] & 255;
        }

        int twoAt(int k) {
            return 256 * byteAt(k) + byteAt(k + 1);
        }

        void begin() {
            at = 0;
            token = 0;
            fault = 0;
            place = NONE;
        }

        boolean fail(int which, int where) {
            if (fault == 0) {
                fault = which;
                place = where;
            }
            return false;
        }

        boolean failHere() {
            return fail(FAULT_TEXT, at);
        }

        /** Goes to what stands next behind the blanks; whatever is taken then, token tells its place. */
        void next() {
            while (at < length && at < bytes.length && (bytes[at] == 32 || bytes[at] == 10)) {
                at++;
            }
            token = at;
        }

        boolean isMore() {
            next();
            return at < length;
        }

        boolean isDigitNext() {
            next();
            return isDigit(byteAt(at));
        }

        boolean sign(char expected) {
            next();
            if (byteAt(at) != expected) {
                return false;
            }
            at++;
            return true;
        }

        boolean needSign(char expected) {
            return sign(expected) || failHere();
        }

        boolean word(String expected) {
            next();
            for (int i = 0; i < expected.length(); i++) {
                if (byteAt(at + i) != expected.charAt(i)) {
                    return false;
                }
            }
            if (isLetter(byteAt(at + expected.length())) || isGlued()) {
                return false;
            }
            at += expected.length();
            return true;
        }

        boolean needWord(String expected) {
            return word(expected) || failHere();
        }

        int number(int least, int most) {
            next();
            if (!isDigit(byteAt(at)) || isGlued()) {
                failHere();
                return NONE;
            }
            int number = 0;
            for (int i = 0; i < DIGITS && isDigit(byteAt(at)); i++) {
                number = 10 * number + byteAt(at) - '0';
                at++;
            }
            if (isDigit(byteAt(at))) {
                failHere();
                return NONE;
            }
            if (number < least || number > most) {
                fail(FAULT_NUMBER, token);
                return NONE;
            }
            return number;
        }

        /** A NAME, five bits a letter, the first one highest; 0 with a FAULT. */
        int name() {
            next();
            int packed = 0;
            for (int i = 0; i < LETTERS && isLetter(byteAt(at)); i++) {
                packed |= packedLetter(byteAt(at), i);
                at++;
            }
            if (packed == 0 || isLetter(byteAt(at))) {
                failHere();
                return 0;
            }
            if (isOwnWord(packed)) {
                fail(FAULT_TEXT, token);
                return 0;
            }
            return packed;
        }

        /** Words and numbers side by side need a blank between them. */
        private boolean isGlued() {
            if (at < 1 || at > length || at > bytes.length) {
                return false;
            }
            int ahead = bytes[at - 1];
            return ahead >= 'a' && ahead <= 'z' || ahead >= '0' && ahead <= '9';
        }

        private static boolean isOwnWord(int packed) {
            int word = 0;
            int k = 0;
            for (int i = 0; i < OWN_WORDS.length(); i++) {
                if (OWN_WORDS.charAt(i) != ' ') {
                    word |= packedLetter(OWN_WORDS.charAt(i), k);
                    k++;
                } else if (word == packed) {
                    return true;
                } else {
                    word = 0;
                    k = 0;
                }
            }
            return false;
        }

        private static int packedLetter(int letter, int k) {
            return (letter - 'a' + 1) << (5 * (LETTERS - 1 - k));
        }

        private static boolean isLetter(int c) {
            return c >= 'a' && c <= 'z';
        }

        private static boolean isDigit(int c) {
            return c >= '0' && c <= '9';
        }
    }

    /** The NAMES of one sort, in the order in which they are told. */
    private static final class Names {
        final int[] packed;
        int count;

        Names(int most) {
            packed = new int[Math.max(0, most)];
        }

        boolean isFull() {
            return count >= packed.length;
        }

        void add(int name) {
            if (!isFull()) {
                packed[count] = name;
                count++;
            }
        }

        int indexOf(int name) {
            for (int i = 0; i < count && i < packed.length; i++) {
                if (packed[i] == name) {
                    return i;
                }
            }
            return NONE;
        }

        int letterOf(int which, int k) {
            if (which < 0 || which >= count || which >= packed.length || k < 0 || k >= LETTERS) {
                return NONE;
            }
            return (packed[which] >> (5 * (LETTERS - 1 - k))) & 31;
        }
    }

    /** A SUM or a TEST as steps: what a sign joins stands ahead of it. */
    private static final class Formula {
        // No text has more steps than bytes.
        final int[] steps = new int[TAPE];
        int length;

        boolean isTold() {
            return length > 0;
        }

        void put(int step) {
            if (length < steps.length) {
                steps[length] = step;
                length++;
            }
        }
    }

    /** What a text tells of a RIVER. */
    private static final class River {
        final Names owners = new Names(OWNERS);
        final Names colours = new Names(COLOURS);
        final Names banks = new Names(BANKS);
        final int[] slope = new int[REACHES];
        final int[] owner = new int[BANKS];
        final int[] colour = new int[BANKS];
        final int[] place = new int[BANKS];
        final int[] told = new int[BANKS];
        final int[] size = new int[BANKS];
        final Formula cut = new Formula();
        final Formula settle = new Formula();
        int statements;
        int reaches;
        int rises;
        int joins;
        int ebb;

        River() {
            clear();
        }

        void clear() {
            owners.count = 0;
            colours.count = 0;
            banks.count = 0;
            for (int r = 0; r < slope.length; r++) {
                slope[r] = 0;
            }
            for (int b = 0; b < told.length; b++) {
                told[b] = 0;
            }
            cut.length = 0;
            settle.length = 0;
            statements = 0;
            reaches = 0;
            rises = 10;
            joins = 20;
            ebb = 0;
        }

        boolean hasReach(int reach) {
            return reach >= 0 && reach < reaches && reach < REACHES;
        }

        boolean hasOwner(int which) {
            return which >= 0 && which < owners.count;
        }

        boolean hasColour(int which) {
            return which >= 0 && which < colours.count;
        }

        boolean hasBank(int bank) {
            return bank >= 0 && bank < banks.count && bank < BANKS;
        }

        boolean isNamed(int name) {
            return owners.indexOf(name) != NONE || colours.indexOf(name) != NONE
                || banks.indexOf(name) != NONE;
        }
    }

    /** Reads SUMS, TESTS and QUESTIONS and puts their steps into a FORMULA. */
    private static final class Grammar {
        final Text text;
        final Formula question;
        Formula into;
        int open;
        boolean asks;

        Grammar(Text text, Formula question) {
            this.text = text;
            this.question = question;
            into = question;
        }

        boolean sumInto(Formula formula) {
            begin(formula, false);
            return sum();
        }

        /** The kind of the QUESTION; NONE with a FAULT. */
        int question() {
            begin(question, true);
            int kind = kind();
            if (kind == NONE || !(kind <= OFTEN ? test() : sum())) {
                return NONE;
            }
            if (text.isMore()) {
                text.failHere();
                return NONE;
            }
            return kind;
        }

        private void begin(Formula formula, boolean isQuestion) {
            into = formula;
            into.length = 0;
            open = 0;
            asks = isQuestion;
        }

        private int kind() {
            if (text.word("first")) {
                return FIRST;
            }
            if (text.word("last")) {
                return LAST;
            }
            if (text.word("often")) {
                return OFTEN;
            }
            if (text.word("total")) {
                return TOTAL;
            }
            if (text.word("most")) {
                return MOST;
            }
            if (text.word("least")) {
                return LEAST;
            }
            text.failHere();
            return NONE;
        }

        private boolean test() {
            boolean is = both();
            for (int i = 0; is && i < TAPE && text.word("or"); i++) {
                is = both() && put(OR);
            }
            return is;
        }

        private boolean both() {
            boolean is = fact();
            for (int i = 0; is && i < TAPE && text.word("and"); i++) {
                is = fact() && put(AND);
            }
            return is;
        }

        private boolean fact() {
            if (text.word("not")) {
                return goIn() && fact() && goOut() && put(NOT);
            }
            if (text.sign('[')) {
                return goIn() && test() && text.needSign(']') && goOut();
            }
            if (text.word("all")) {
                return put(1);
            }
            return sum() && comparison();
        }

        private boolean comparison() {
            if (text.sign('<')) {
                return sum() && put(BELOW);
            }
            if (text.sign('>')) {
                return sum() && put(ABOVE);
            }
            if (text.sign('=')) {
                return sum() && put(SAME);
            }
            return text.failHere();
        }

        private boolean sum() {
            boolean is = product();
            for (int i = 0; is && i < TAPE; i++) {
                if (text.sign('+')) {
                    is = product() && put(ADD);
                } else if (text.sign('-')) {
                    is = product() && put(SUBTRACT);
                } else {
                    return true;
                }
            }
            return is;
        }

        private boolean product() {
            boolean is = part();
            for (int i = 0; is && i < TAPE; i++) {
                if (text.sign('*')) {
                    is = part() && put(MULTIPLY);
                } else if (text.sign('/')) {
                    is = part() && put(DIVIDE);
                } else {
                    return true;
                }
            }
            return is;
        }

        private boolean part() {
            if (text.isDigitNext()) {
                return put(text.number(0, 9999));
            }
            if (text.sign('(')) {
                return goIn() && sum() && text.needSign(')') && goOut();
            }
            if (text.word("min")) {
                return pair() && put(LESSER);
            }
            if (text.word("max")) {
                return pair() && put(GREATER);
            }
            if (text.word("level")) {
                return put(KNOWN - LEVEL);
            }
            return asks ? askedPart() : riverPart();
        }

        private boolean pair() {
            return text.needSign('(') && goIn() && sum() && text.needSign(',') && sum()
                && text.needSign(')') && goOut();
        }

        private boolean riverPart() {
            if (text.word("flow")) {
                return put(KNOWN - FLOW);
            }
            if (text.word("size")) {
                return put(KNOWN - SIZE);
            }
            if (text.word("held")) {
                return put(KNOWN - HELD);
            }
            if (text.word("stones")) {
                return put(KNOWN - STONES_THERE);
            }
            if (text.word("year")) {
                return put(KNOWN - YEAR);
            }
            if (text.word("place")) {
                return put(KNOWN - PLACE);
            }
            return text.failHere();
        }

        private boolean askedPart() {
            if (text.word("taken")) {
                return put(KNOWN - TAKEN);
            }
            if (text.word("sea")) {
                return put(KNOWN - SEA);
            }
            if (text.word("lies")) {
                return goIn() && part() && goOut() && put(LYING);
            }
            if (text.word("holds")) {
                return goIn() && part() && goOut() && put(HOLDING);
            }
            return text.failHere();
        }

        /** What was just taken is open from here on. */
        private boolean goIn() {
            if (open >= OPEN) {
                return text.fail(FAULT_DEEP, text.token);
            }
            open++;
            return true;
        }

        private boolean goOut() {
            open--;
            return true;
        }

        private boolean put(int step) {
            if (text.fault != 0) {
                return false;
            }
            into.put(step);
            return true;
        }
    }

    /** Reads the text of a RIVER. */
    private static final class RiverReader {
        final Text text;
        final Grammar grammar;
        River into;

        RiverReader(Text text, Grammar grammar, River into) {
            this.text = text;
            this.grammar = grammar;
            this.into = into;
        }

        boolean read(River river) {
            into = river;
            into.clear();
            for (int i = 0; i <= STATEMENTS && text.isMore(); i++) {
                if (i == STATEMENTS) {
                    return text.fail(FAULT_MANY, text.at);
                }
                if (!(i == 0 ? reaches() : statement()) || !text.needSign(';')) {
                    return false;
                }
                into.statements++;
            }
            return into.statements > 0 || text.failHere();
        }

        private boolean reaches() {
            if (!text.needWord("river")) {
                return false;
            }
            into.reaches = Math.max(0, text.number(3, REACHES));
            return text.fault == 0;
        }

        private boolean statement() {
            if (text.word("slope")) {
                return slope();
            }
            if (text.word("owner")) {
                return isRoom(!into.owners.isFull()) && given(into.owners);
            }
            if (text.word("colour")) {
                return isRoom(!into.colours.isFull()) && given(into.colours);
            }
            if (text.word("bank")) {
                return isRoom(!into.banks.isFull()) && given(into.banks) && bankTold();
            }
            if (text.word("cut")) {
                return isRoom(!into.cut.isTold()) && grammar.sumInto(into.cut);
            }
            if (text.word("settle")) {
                return isRoom(!into.settle.isTold()) && grammar.sumInto(into.settle);
            }
            if (text.word("rises")) {
                into.rises = text.number(1, 99);
            } else if (text.word("joins")) {
                into.joins = text.number(1, 99);
            } else if (text.word("ebb")) {
                into.ebb = text.number(0, 50);
            } else {
                text.failHere();
            }
            return text.fault == 0;
        }

        private boolean isRoom(boolean is) {
            return is || text.fail(FAULT_MANY, text.token);
        }

        private boolean slope() {
            int slope = text.number(0, 9);
            if (slope == NONE || !text.needWord("at")) {
                return false;
            }
            int reach = text.number(0, into.reaches - 1);
            if (!into.hasReach(reach)) {
                return false;
            }
            into.slope[reach] = slope;
            return true;
        }

        /** A NAME to be given. */
        private boolean given(Names names) {
            int name = text.name();
            if (name == 0) {
                return false;
            }
            if (into.isNamed(name)) {
                return text.fail(FAULT_NAME, text.token);
            }
            names.add(name);
            return true;
        }

        /** Which of those told already a NAME is; NONE with a FAULT. */
        private int asked(Names names) {
            int name = text.name();
            if (name == 0) {
                return NONE;
            }
            int which = names.indexOf(name);
            if (which == NONE) {
                text.fail(FAULT_NAME, text.token);
            }
            return which;
        }

        /** What is told of the BANK whose NAME was given just now. */
        private boolean bankTold() {
            int bank = into.banks.count - 1;
            if (!into.hasBank(bank)) {
                return false;
            }
            into.owner[bank] = text.needWord("of") ? asked(into.owners) : NONE;
            if (text.fault == 0 && text.needWord("colour")) {
                into.colour[bank] = asked(into.colours);
            }
            if (text.fault == 0 && text.needWord("at")) {
                into.place[bank] = text.number(0, into.reaches - 1);
            }
            if (text.fault == 0 && text.needWord("holds")) {
                into.told[bank] = text.number(0, TOLD_GRAINS);
            }
            if (text.fault == 0 && text.needWord("size")) {
                into.size[bank] = text.number(1, 9);
            }
            return text.fault == 0;
        }
    }

    /** What changes: the YEAR, stones, and where each grain is. */
    private static final class Silt {
        final int[] stones = new int[REACHES];
        final int[] lying = new int[REACHES * BANKS];
        final int[] held = new int[BANKS];
        final int[] gone = new int[BANKS];
        int year;

        /** As the text of a RIVER tells it. */
        void clear(River river) {
            year = 0;
            for (int r = 0; r < stones.length; r++) {
                stones[r] = 0;
            }
            for (int i = 0; i < lying.length; i++) {
                lying[i] = 0;
            }
            for (int b = 0; b < BANKS; b++) {
                held[b] = river.told[b];
                gone[b] = 0;
            }
        }

        void copy(Silt other) {
            year = other.year;
            System.arraycopy(other.stones, 0, stones, 0, REACHES);
            System.arraycopy(other.lying, 0, lying, 0, REACHES * BANKS);
            System.arraycopy(other.held, 0, held, 0, BANKS);
            System.arraycopy(other.gone, 0, gone, 0, BANKS);
        }

        int lyingIn(int reach) {
            int grains = 0;
            for (int b = 0; b < BANKS; b++) {
                grains += lying[cell(reach, b)];
            }
            return grains;
        }

        int lyingOf(int bank) {
            int grains = 0;
            for (int r = 0; r < REACHES; r++) {
                grains += lying[cell(r, bank)];
            }
            return grains;
        }

        int owned(River river, int reach, int owner) {
            int grains = 0;
            for (int b = 0; b < river.banks.count; b++) {
                grains += river.owner[b] == owner ? lying[cell(reach, b)] : 0;
            }
            return grains;
        }

        int coloured(River river, int reach, int colour) {
            int grains = 0;
            for (int b = 0; b < river.banks.count; b++) {
                grains += river.colour[b] == colour ? lying[cell(reach, b)] : 0;
            }
            return grains;
        }

        void payInterest(int ebb) {
            for (int i = 0; i < lying.length; i++) {
                int paid = lying[i] * ebb / 100;
                lying[i] -= paid;
                gone[i % BANKS] += paid;
            }
        }
    }

    /** The states ahead of the latest ACTS. */
    private static final class Past {
        static final int STATE = 1 + REACHES + REACHES * BANKS + 2 * BANKS;
        final int[] cells = new int[ACTS * STATE];
        int next;
        int count;

        void clear() {
            count = 0;
        }

        void store(Silt silt) {
            int at = next * STATE;
            cells[at] = silt.year;
            System.arraycopy(silt.stones, 0, cells, at + 1, REACHES);
            System.arraycopy(silt.lying, 0, cells, at + 1 + REACHES, REACHES * BANKS);
            System.arraycopy(silt.held, 0, cells, at + STATE - 2 * BANKS, BANKS);
            System.arraycopy(silt.gone, 0, cells, at + STATE - BANKS, BANKS);
            next = (next + 1) % ACTS;
            count = Math.min(ACTS, count + 1);
        }

        boolean giveBack(Silt silt) {
            if (count == 0) {
                return false;
            }
            next = (next + ACTS - 1) % ACTS;
            count--;
            int at = next * STATE;
            silt.year = cells[at];
            System.arraycopy(cells, at + 1, silt.stones, 0, REACHES);
            System.arraycopy(cells, at + 1 + REACHES, silt.lying, 0, REACHES * BANKS);
            System.arraycopy(cells, at + STATE - 2 * BANKS, silt.held, 0, BANKS);
            System.arraycopy(cells, at + STATE - BANKS, silt.gone, 0, BANKS);
            return true;
        }
    }

    /** Reckons a FORMULA by what it is told. */
    private static final class Reckoner {
        // Six open at once leave at most some thirty numbers waiting.
        final int[] waiting = new int[64];
        final int[] known = new int[ALL_KNOWN];
        final int[] lying = new int[REACHES];
        final int[] holding = new int[BANKS];
        int top;

        int reckon(Formula formula) {
            top = 0;
            for (int i = 0; i < formula.length && i < formula.steps.length; i++) {
                int step = formula.steps[i];
                if (step >= 0) {
                    push(step);
                } else if (step <= KNOWN) {
                    push(entry(known, KNOWN - step));
                } else if (step == NOT) {
                    push(1 - pop());
                } else if (step == LYING) {
                    push(entry(lying, pop()));
                } else if (step == HOLDING) {
                    push(entry(holding, pop()));
                } else {
                    int b = pop();
                    push(join(step, pop(), b));
                }
            }
            return pop();
        }

        private int join(int sign, int a, int b) {
            switch (sign) {
                case ADD: return within(a + b, -BOUND, BOUND);
                case SUBTRACT: return within(a - b, -BOUND, BOUND);
                case MULTIPLY: return within((long) a * b, -BOUND, BOUND);
                case DIVIDE: return b == 0 ? 0 : Math.floorDiv(a, b);
                case LESSER: return Math.min(a, b);
                case GREATER: return Math.max(a, b);
                case BELOW: return a < b ? 1 : 0;
                case ABOVE: return a > b ? 1 : 0;
                case SAME: return a == b ? 1 : 0;
                case AND: return a & b;
                case OR: return a | b;
                default: return 0;
            }
        }

        private void push(int number) {
            if (top < waiting.length) {
                waiting[top] = number;
                top++;
            }
        }

        private int pop() {
            if (top < 1) {
                return 0;
            }
            top--;
            return waiting[top];
        }

        private static int entry(int[] row, int k) {
            return k < 0 || k >= row.length ? 0 : row[k];
        }
    }

    /** A FLOOD as it would be: what it cuts, lets fall and carries out of each REACH. */
    private static final class Flood {
        final Reckoner reckoner;
        final int[] stones = new int[REACHES];
        final int[] cut = new int[BANKS];
        final int[] settled = new int[REACHES * BANKS];
        final int[] carried = new int[REACHES * BANKS];
        River river;
        Silt silt;
        int level;

        Flood(Reckoner reckoner, River river, Silt silt) {
            this.reckoner = reckoner;
            this.river = river;
            this.silt = silt;
        }

        void aim(River at, Silt by, int height) {
            river = at;
            silt = by;
            level = height;
            System.arraycopy(by.stones, 0, stones, 0, REACHES);
        }

        /**
         * Goes through REACHES; what comes into the first one is as it was carried there last.
         * A BANK may settle before the next one is cut: no BANK's grains ask for another's.
         */
        void run(int from, int to) {
            for (int r = Math.max(0, from); r <= to && r < REACHES; r++) {
                for (int b = 0; b < river.banks.count; b++) {
                    int carrying = r == 0 ? 0 : carried[cell(r - 1, b)];
                    if (river.place[b] == r) {
                        cut[b] = cutOf(b);
                        carrying += cut[b];
                    }
                    int falls = settling(r, b, carrying);
                    settled[cell(r, b)] = falls;
                    carried[cell(r, b)] = carrying - falls;
                }
            }
        }

        int flowIn(int reach) {
            return Math.max(0, level + river.slope[reach] - 3 * stones[reach]);
        }

        int cutOf(int bank) {
            if (level == 0 || !river.cut.isTold()) {
                return 0;
            }
            tell(river.place[bank], bank, silt.held[bank]);
            return within(reckoner.reckon(river.cut), 0, silt.held[bank]);
        }

        private int settling(int reach, int bank, int carrying) {
            if (level == 0 || carrying == 0) {
                return 0;
            }
            if (!river.settle.isTold()) {
                return river.size[bank] > flowIn(reach) ? carrying : 0;
            }
            tell(reach, bank, carrying);
            return within(reckoner.reckon(river.settle), 0, carrying);
        }

        private void tell(int reach, int bank, int held) {
            int[] known = reckoner.known;
            known[LEVEL] = level;
            known[FLOW] = flowIn(reach);
            known[SIZE] = river.size[bank];
            known[HELD] = held;
            known[STONES_THERE] = stones[reach];
            known[YEAR] = silt.year;
            known[PLACE] = reach;
        }

        /** Tells the reckoner what a QUESTION may ask of this FLOOD. */
        void tellAll() {
            reckoner.known[LEVEL] = level;
            reckoner.known[TAKEN] = taken();
            reckoner.known[SEA] = toSea();
            for (int r = 0; r < REACHES; r++) {
                reckoner.lying[r] = r < river.reaches ? leftIn(r) : 0;
            }
            for (int b = 0; b < BANKS; b++) {
                reckoner.holding[b] = b < river.banks.count ? silt.held[b] - cut[b] : 0;
            }
        }

        int taken() {
            int grains = 0;
            for (int b = 0; b < river.banks.count; b++) {
                grains += cut[b];
            }
            return grains;
        }

        int toSea() {
            int grains = 0;
            for (int b = 0; b < river.banks.count && river.reaches > 0; b++) {
                grains += carried[cell(river.reaches - 1, b)];
            }
            return grains;
        }

        int settledIn(int reach) {
            int grains = 0;
            for (int b = 0; b < river.banks.count; b++) {
                grains += settled[cell(reach, b)];
            }
            return grains;
        }

        int settledGrains() {
            int grains = 0;
            for (int r = 0; r < river.reaches; r++) {
                grains += settledIn(r);
            }
            return grains;
        }

        int mostSettled() {
            int best = NONE;
            int most = 0;
            for (int r = 0; r < river.reaches; r++) {
                if (settledIn(r) > most) {
                    most = settledIn(r);
                    best = r;
                }
            }
            return best;
        }

        int leftIn(int reach) {
            return silt.lyingIn(reach) + settledIn(reach);
        }

        int shareLeft(int reach, int owner) {
            int own = silt.owned(river, reach, owner);
            for (int b = 0; b < river.banks.count; b++) {
                own += river.owner[b] == owner ? settled[cell(reach, b)] : 0;
            }
            return thousandths(own, leftIn(reach));
        }

        /** Makes what would be so. */
        void lay() {
            for (int b = 0; b < river.banks.count; b++) {
                silt.held[b] -= cut[b];
                for (int r = 0; r < river.reaches; r++) {
                    silt.lying[cell(r, b)] += settled[cell(r, b)];
                }
                if (river.reaches > 0) {
                    silt.gone[b] += carried[cell(river.reaches - 1, b)];
                }
            }
        }
    }

    /** Seeks the fewest stones by which the flood that is aimed leaves so much. */
    private static final class Mason {
        final Flood flood;
        final int[] best = new int[REACHES];
        int fewest = NONE;

        Mason(Flood flood) {
            this.flood = flood;
        }

        int answer(int k) {
            if (fewest == NONE || k < 0 || k >= best.length) {
                return fewest;
            }
            return best[k];
        }

        /** What a BANK keeps hangs on the stones of its own REACH alone. */
        void seekHeld(int bank, int grains) {
            begin();
            int reach = flood.river.place[bank];
            for (int laid = 0; laid <= TRIED_STONES && fewest == NONE; laid++) {
                flood.stones[reach] = laid;
                if (flood.silt.held[bank] - flood.cutOf(bank) >= grains) {
                    keepBest();
                }
            }
        }

        /**
         * What lies in a REACH hangs on the stones there and ahead of it. They are tried as the
         * digits of a number that counts up, the first REACH the highest: of like ones the first
         * stays. Only the REACHES whose stones have changed since are flooded again.
         */
        void seekShare(int owner, int reach, int share) {
            begin();
            int tries = 1;
            for (int r = 0; r <= reach; r++) {
                tries *= TRIED_STONES + 1;
            }
            int stale = 0;
            for (int i = 0; i < tries && fewest != 0; i++) {
                if (fewest == NONE || total(flood.stones) < fewest) {
                    flood.run(stale, reach);
                    stale = reach + 1;
                    if (flood.shareLeft(reach, owner) >= share) {
                        keepBest();
                    }
                }
                stale = Math.min(stale, countUp(reach));
            }
        }

        private void begin() {
            fewest = NONE;
            for (int r = 0; r < REACHES; r++) {
                flood.stones[r] = 0;
            }
        }

        private void keepBest() {
            fewest = total(flood.stones);
            System.arraycopy(flood.stones, 0, best, 0, REACHES);
        }

        /** The next stones; answers the first REACH that has other ones now. */
        private int countUp(int reach) {
            int at = reach;
            while (at > 0 && flood.stones[at] >= TRIED_STONES) {
                flood.stones[at] = 0;
                at--;
            }
            flood.stones[at]++;
            return at;
        }
    }
}
