/** Promises 6 to 12 and what term III tells of SHARES and LANDS: what there is, what lies there and whose it is. */
public final class ThereIsTests {
    private static final String III = "Term III";
    private static final int[] NO_INDEX = {-1, -2, Integer.MIN_VALUE, Integer.MAX_VALUE};
    private static final String LAND = "river 5;slope 2 at 0;slope 9 at 4;owner ann;owner bobby;colour red;colour blue;"
        + "colour zz;bank up of ann colour red at 0 holds 40 size 3;bank lowest of bobby colour blue at 1 holds 30 size 5;"
        + "bank c of bobby colour red at 4 holds 20 size 9;cut 10;settle 4;rises 8;";

    public static void main(String[] args) {
        Due due = new Due("ThereIsTests");
        counts(due);
        greatestCounts(due);
        letters(due);
        banks(due);
        reaches(due);
        noReaches(due);
        islands(due);
        majorities(due);
        joins(due);
        chains(due);
        votes(due);
        lies(due);
        shares(due);
        tints(due);
        due.finish();
    }

    private static int[] has(SiltShare x) {
        int[] row = new int[13];
        for (int i = 0; i < row.length; i++) {
            row[i] = x.has(i);
        }
        return row;
    }

    private static int[] reach(SiltShare x, int reach) {
        int[] row = new int[8];
        for (int i = 0; i < row.length; i++) {
            row[i] = x.reach(reach, i);
        }
        return row;
    }

    private static int[] bank(SiltShare x, int bank) {
        int[] row = new int[7];
        for (int i = 0; i < row.length; i++) {
            row[i] = x.bank(bank, i);
        }
        return row;
    }

    private static void counts(Due due) {
        due.holds("Promise 6", "How many there are: 0 REACHES, 1 OWNERS, 2 COLOURS, 3 BANKS, 4 rises, 5 joins, 6 ebb, 7 YEAR, 8 stones, "
            + "9 grains that BANKS hold, 10 that lie in REACHES, 11 that went to the SEA, 12 ACTS that can be undone.");
        SiltShare x = Due.river(LAND + "joins 17;ebb 3;");
        due.row("has", has(x), 5, 2, 3, 3, 8, 17, 3, 0, 0, 90, 0, 0, 0);
        due.is("flood(1)", x.flood(1), 24);
        // no heap is so great that 3 of 100 of it are a grain
        due.row("has", has(x), 5, 2, 3, 3, 8, 17, 3, 1, 0, 60, 24, 6, 1);
        x.stone(1, true);
        x.stone(1, true);
        x.stone(4, true);
        due.row("has", has(x), 5, 2, 3, 3, 8, 17, 3, 1, 3, 60, 24, 6, 4);
        due.row("has of nobody", has(Due.river("river 8;")), 8, 0, 0, 0, 10, 20, 0, 0, 0, 0, 0, 0, 0);
        due.holds("Promise 6", "NONE for others.");
        due.is("has(13)", x.has(13), -1);
        for (int what : NO_INDEX) {
            due.is("has(" + what + ")", x.has(what), -1);
        }
    }

    /** All that a RIVER may have at most. */
    private static void greatestCounts(Due due) {
        due.holds("Promise 6", "How many there are: 0 REACHES, 1 OWNERS, 2 COLOURS, 3 BANKS, 4 rises, 5 joins, 6 ebb, 7 YEAR, 8 stones, "
            + "9 grains that BANKS hold, 10 that lie in REACHES, 11 that went to the SEA, 12 ACTS that can be undone.");
        StringBuilder text = new StringBuilder("river 8;");
        for (char c = 'a'; c < 'f'; c++) {
            text.append("owner ").append(c).append(";colour ").append((char) (c + 5)).append(";");
        }
        for (char c = 'p'; c < 'z'; c++) {
            text.append("bank ").append(c).append(" of e colour j at 7 holds 99 size 9;");
        }
        SiltShare x = Due.river(text + "rises 99;joins 99;ebb 50;cut 99*(1-year);settle 99*(1-year);");
        due.row("has", has(x), 8, 5, 5, 10, 99, 99, 50, 0, 0, 990, 0, 0, 0);
        for (int i = 0; i < 24; i++) {
            x.stone(i / 3, true);
        }
        due.is("flood(1)", x.flood(1), 990);
        // 49 of each 99 went
        due.row("has", has(x), 8, 5, 5, 10, 99, 99, 50, 1, 24, 0, 500, 490, 20);
        due.is("letter(0, 4, 0)", x.letter(0, 4, 0), 5);
        due.is("letter(1, 4, 0)", x.letter(1, 4, 0), 10);
        due.is("letter(2, 9, 0)", x.letter(2, 9, 0), 25);
        due.row("bank 9", bank(x, 9), 4, 4, 7, 9, 0, 50, 49);
        due.row("reach 7", reach(x, 7), 0, 3, 500, 1, 4, 7, 7, 4);
        due.is("share(7, 4)", x.share(7, 4), 1000);
        due.is("tint(7, 4)", x.tint(7, 4), 500);
    }

    private static void letters(Due due) {
        due.holds("Promise 7", "Letter k (0 .. 5) of the NAME of an OWNER (kind 0), a COLOUR (1), a BANK (2): 1 .. 26; 0 behind it;");
        SiltShare x = Due.river(LAND);
        int[] lowest = {12, 15, 23, 5, 19, 20};
        int[] bobby = {2, 15, 2, 2, 25, 0};
        int[] zz = {26, 26, 0, 0, 0, 0};
        for (int k = 0; k < 6; k++) {
            due.is("letter(2, 1, " + k + ")", x.letter(2, 1, k), lowest[k]);
            due.is("letter(0, 1, " + k + ")", x.letter(0, 1, k), bobby[k]);
            due.is("letter(1, 2, " + k + ")", x.letter(1, 2, k), zz[k]);
        }
        due.is("letter(0, 0, 0)", x.letter(0, 0, 0), 1);
        due.is("letter(2, 2, 0)", x.letter(2, 2, 0), 3);
        due.is("letter(2, 2, 1)", x.letter(2, 2, 1), 0);
        SiltShare y = Due.river("river 3;owner zzzzzz;owner aaaaaa;");
        for (int k = 0; k < 6; k++) {
            due.is("letter(0, 0, " + k + ") of z", y.letter(0, 0, k), 26);
            due.is("letter(0, 1, " + k + ") of a", y.letter(0, 1, k), 1);
        }
        due.holds("Promise 7", "NONE when there is none such.");
        due.is("letter(0, 0, 6)", x.letter(0, 0, 6), -1);
        due.is("letter(2, 1, 6)", x.letter(2, 1, 6), -1);
        due.is("letter(0, 2, 0)", x.letter(0, 2, 0), -1);
        due.is("letter(1, 3, 0)", x.letter(1, 3, 0), -1);
        due.is("letter(2, 3, 0)", x.letter(2, 3, 0), -1);
        due.is("letter(3, 0, 0)", x.letter(3, 0, 0), -1);
        for (int none : NO_INDEX) {
            due.is("letter(0, 0, " + none + ")", x.letter(0, 0, none), -1);
            due.is("letter(1, " + none + ", 0)", x.letter(1, none, 0), -1);
            due.is("letter(2, " + none + ", 0)", x.letter(2, none, 0), -1);
            due.is("letter(" + none + ", 0, 0)", x.letter(none, 0, 0), -1);
        }
        due.is("letter(1, 0, 0) of no COLOUR", y.letter(1, 0, 0), -1);
        due.is("letter(2, 0, 0) of no BANK", y.letter(2, 0, 0), -1);
        due.is("letter(0, 0, 0) of no OWNER", Due.river("river 3;colour c;").letter(0, 0, 0), -1);
    }

    private static void banks(Due due) {
        due.holds("Promise 8", "Of a BANK: 0 its OWNER, 1 COLOUR, 2 REACH, 3 size, 4 what it holds, 5 how many of its grains lie in REACHES, "
            + "6 went to the SEA.");
        SiltShare x = Due.river(LAND);
        due.row("bank 0", bank(x, 0), 0, 0, 0, 3, 40, 0, 0);
        due.row("bank 1", bank(x, 1), 1, 1, 1, 5, 30, 0, 0);
        x.flood(1);
        due.row("bank 0", bank(x, 0), 0, 0, 0, 3, 30, 10, 0);
        due.row("bank 1", bank(x, 1), 1, 1, 1, 5, 20, 10, 0);
        due.row("bank 2", bank(x, 2), 1, 0, 4, 9, 10, 4, 6);
        x.flood(1);
        x.flood(1);
        due.row("bank 2 that holds no more", bank(x, 2), 1, 0, 4, 9, 0, 8, 12);
        SiltShare y = Due.river("river 3;owner a;colour c;bank b of a colour c at 2 holds 99 size 1;bank d of a colour c at 0 holds 0 size 9;");
        due.row("the greatest", bank(y, 0), 0, 0, 2, 1, 99, 0, 0);
        due.row("the least", bank(y, 1), 0, 0, 0, 9, 0, 0, 0);
        due.holds("Promise 8", "NONE when there is none such, or for others.");
        due.is("bank(3, 0)", x.bank(3, 0), -1);
        due.is("bank(0, 7)", x.bank(0, 7), -1);
        for (int none : NO_INDEX) {
            due.is("bank(" + none + ", 0)", x.bank(none, 0), -1);
            due.is("bank(0, " + none + ")", x.bank(0, none), -1);
        }
        due.is("bank(0, 0) of no BANK", Due.river("river 3;").bank(0, 0), -1);
    }

    private static void reaches(Due due) {
        due.holds("Promise 9", "Of a REACH: 0 its slope, 1 stones, 2 how many grains lie there, 3 whether it is an ISLAND, 4 the OWNER with the MAJORITY "
            + "(NONE), 5 the first REACH of its LAND (NONE of no ISLAND), 6 the last one, 7 its LAND's VOTE.");
        SiltShare x = Due.river(LAND + "joins 17;");
        due.row("reach 4", reach(x, 4), 9, 0, 0, 0, -1, -1, -1, -1);
        x.flood(1);
        x.stone(3, true);
        // r0: 4 of ann; r1: 4 and 4; r2: 2 and 4; r3: 2 of bobby; r4: 4 of bobby
        due.row("reach 0", reach(x, 0), 2, 0, 4, 0, 0, -1, -1, -1);
        due.row("reach 1", reach(x, 1), 0, 0, 8, 1, -1, 1, 1, 0);
        due.row("reach 2", reach(x, 2), 0, 0, 6, 0, 1, -1, -1, -1);
        due.row("reach 3", reach(x, 3), 0, 1, 2, 0, 1, -1, -1, -1);
        due.row("reach 4", reach(x, 4), 9, 0, 4, 0, 1, -1, -1, -1);
        x.flood(1);
        // r0: 8, 0; r1: 8, 8; r2: 4, 8; r3: 0, 4; r4: 0, 8
        due.row("reach 0", reach(x, 0), 2, 0, 8, 1, 0, 0, 2, 0);
        due.row("reach 1", reach(x, 1), 0, 0, 16, 1, -1, 0, 2, 0);
        due.row("reach 2", reach(x, 2), 0, 0, 12, 1, 1, 0, 2, 0);
        due.row("reach 3", reach(x, 3), 0, 1, 4, 0, 1, -1, -1, -1);
        due.row("reach 4", reach(x, 4), 9, 0, 8, 1, 1, 4, 4, 1);
    }

    private static void noReaches(Due due) {
        due.holds("Promise 9", "NONE when there is none such, or for others.");
        SiltShare x = Due.river(LAND);
        x.flood(1);
        for (int what = 0; what < 8; what++) {
            due.is("reach(5, " + what + ")", x.reach(5, what), -1);
            for (int none : NO_INDEX) {
                due.is("reach(" + none + ", " + what + ")", x.reach(none, what), -1);
            }
        }
        due.is("reach(0, 8)", x.reach(0, 8), -1);
        for (int none : NO_INDEX) {
            due.is("reach(0, " + none + ")", x.reach(0, none), -1);
        }
        due.is("reach(3, 0) of three", Due.river("river 3;").reach(3, 0), -1);
        due.is("reach(8, 0) of eight", Due.river("river 8;").reach(8, 0), -1);
    }

    /** A RIVER in whose REACHES so many grains lie, a's and b's (three of each at most 99). */
    static SiltShare heaps(String rest, int reaches, int[] ofA, int[] ofB) {
        StringBuilder text = new StringBuilder("river " + reaches + ";owner a;owner b;colour c;");
        for (int r = 0; r < reaches; r++) {
            if (ofB[r] > 0) {
                text.append("bank ").append((char) ('p' + r)).append(" of b colour c at ").append(r).append(" holds ").append(ofB[r]).append(" size 9;");
            }
            if (ofA[r] > 0) {
                text.append("bank ").append((char) ('f' + r)).append(" of a colour c at ").append(r).append(" holds ").append(ofA[r]).append(" size 9;");
            }
        }
        SiltShare x = Due.river(text + "cut 99;settle 99;" + rest);
        x.flood(1);
        return x;
    }

    private static void islands(Due due) {
        due.holds(III, "An ISLAND is a REACH in which rises or more grains lie.");
        int[] none = {0, 0, 0};
        SiltShare x = heaps("rises 7;", 3, new int[] {6, 7, 8}, none);
        due.is("6 of 7", x.reach(0, 3), 0);
        due.is("7 of 7", x.reach(1, 3), 1);
        due.is("8 of 7", x.reach(2, 3), 1);
        x = heaps("", 3, new int[] {9, 10, 11}, none);
        due.is("9 without rises", x.reach(0, 3), 0);
        due.is("10 without rises", x.reach(1, 3), 1);
        due.is("11 without rises", x.reach(2, 3), 1);
        x = heaps("rises 1;", 3, new int[] {0, 1, 0}, new int[] {0, 0, 1});
        due.is("none of 1", x.reach(0, 3), 0);
        due.is("1 of 1", x.reach(1, 3), 1);
        due.is("1 of 1", x.reach(2, 3), 1);
        x = heaps("rises 99;", 3, new int[] {98, 99, 50}, new int[] {0, 0, 49});
        due.is("98 of 99", x.reach(0, 3), 0);
        due.is("99 of 99", x.reach(1, 3), 1);
        due.is("99 of 99 of two", x.reach(2, 3), 1);
        due.is("the first REACH of no ISLAND's LAND", x.reach(0, 5), -1);
        due.is("the last REACH of no ISLAND's LAND", x.reach(0, 6), -1);
        due.is("the VOTE of no ISLAND's LAND", x.reach(0, 7), -1);
    }

    private static void majorities(Due due) {
        due.holds(III, "MAJORITY: the OWNER who has more than half.");
        SiltShare x = heaps("", 5, new int[] {5, 6, 5, 0, 1}, new int[] {5, 5, 6, 0, 0});
        due.is("5 and 5", x.reach(0, 4), -1);
        due.is("6 and 5", x.reach(1, 4), 0);
        due.is("5 and 6", x.reach(2, 4), 1);
        due.is("none", x.reach(3, 4), -1);
        due.is("1 alone", x.reach(4, 4), 0);
        // three of like ones, and one that has most of three but no half
        SiltShare y = Due.river("river 3;owner a;owner b;owner d;colour c;bank u of a colour c at 0 holds 2 size 9;bank v of b colour c at 0 holds 2 size 9;"
            + "bank w of d colour c at 0 holds 3 size 9;cut 99;settle 99;");
        y.flood(1);
        due.is("2, 2 and 3", y.reach(0, 4), -1);
        y.rake(0, 0, 2, 1);
        due.is("1, 2 and 4", y.reach(0, 4), 2);
    }

    private static void joins(Due due) {
        due.holds(III, "Two ISLANDS side by side JOIN, if joins or more lie in both together;");
        int[] joins = {24, 25, 28, 29};
        int[] from0 = {0, 0, 0, 0};
        int[] to0 = {2, 0, 0, 0};
        int[] from1 = {0, 1, 1, 1};
        int[] to1 = {2, 2, 2, 1};
        int[] from2 = {0, 1, 1, 2};
        for (int i = 0; i < joins.length; i++) {
            SiltShare x = Due.river(LAND + "joins " + joins[i] + ";");
            x.flood(1);
            x.flood(1);
            due.is("first of 0 by joins " + joins[i], x.reach(0, 5), from0[i]);
            due.is("last of 0 by joins " + joins[i], x.reach(0, 6), to0[i]);
            due.is("first of 1 by joins " + joins[i], x.reach(1, 5), from1[i]);
            due.is("last of 1 by joins " + joins[i], x.reach(1, 6), to1[i]);
            due.is("first of 2 by joins " + joins[i], x.reach(2, 5), from2[i]);
            due.is("last of 2 by joins " + joins[i], x.reach(2, 6), 2);
        }
        // with one that is no ISLAND between them, or that is none itself, none join
        SiltShare y = Due.river(LAND + "joins 1;rises 13;");
        y.flood(1);
        y.flood(1);
        due.is("reach(1, 5)", y.reach(1, 5), 1);
        due.is("reach(1, 6)", y.reach(1, 6), 1);
        due.is("reach(0, 5)", y.reach(0, 5), -1);
        due.is("reach(2, 3)", y.reach(2, 3), 0);
        int[] none = {0, 0, 0};
        SiltShare x = heaps("rises 5;", 3, new int[] {10, 9, 10}, none);
        due.is("19 without joins", x.reach(0, 6), 0);
        x = heaps("rises 5;", 3, new int[] {10, 10, 9}, none);
        due.is("20 without joins", x.reach(0, 6), 1);
        due.is("19 without joins", x.reach(2, 5), 2);
    }

    private static void chains(Due due) {
        due.holds(III, "what is JOINED so, one behind the other, is one LAND.");
        int[] none = new int[8];
        SiltShare x = heaps("rises 3;joins 6;", 8, new int[] {3, 3, 3, 3, 3, 3, 3, 3}, none);
        for (int r = 0; r < 8; r++) {
            due.is("first of all eight", x.reach(r, 5), 0);
            due.is("last of all eight", x.reach(r, 6), 7);
        }
        x = heaps("rises 3;joins 6;", 8, new int[] {3, 3, 2, 3, 3, 4, 2, 9}, none);
        int[] from = {0, 0, -1, 3, 3, 3, -1, 7};
        int[] to = {1, 1, -1, 5, 5, 5, -1, 7};
        for (int r = 0; r < 8; r++) {
            due.is("first of LAND " + r, x.reach(r, 5), from[r]);
            due.is("last of LAND " + r, x.reach(r, 6), to[r]);
        }
        // side by side, but not JOINED: 3 and 3 are less than 7
        x = heaps("rises 3;joins 7;", 8, new int[] {3, 3, 4, 3, 3, 9, 9, 3}, none);
        from = new int[] {0, 1, 1, 1, 4, 4, 4, 4};
        to = new int[] {0, 3, 3, 3, 7, 7, 7, 7};
        for (int r = 0; r < 8; r++) {
            due.is("first of LAND " + r, x.reach(r, 5), from[r]);
            due.is("last of LAND " + r, x.reach(r, 6), to[r]);
        }
    }

    private static void votes(Due due) {
        due.holds(III, "A LAND's VOTE: the OWNER with the most grains in it, the first of like ones.");
        SiltShare x = Due.river(LAND + "joins 17;");
        x.flood(1);
        x.flood(1);
        // ann has 20 of the LAND 0 .. 2, bobby 16: by two grains raked it is 18 and 18
        due.is("rake", x.rake(2, 0, 1, 2), true);
        due.is("vote of like ones", x.reach(1, 7), 0);
        due.is("rake", x.rake(2, 0, 1, 1), true);
        due.is("vote", x.reach(1, 7), 1);
        due.is("vote of another LAND", x.reach(4, 7), 1);
        int[] none = new int[3];
        due.is("of one OWNER, the last one", heaps("rises 1;", 3, none, new int[] {1, 0, 0}).reach(0, 7), 1);
        due.is("one alone", heaps("rises 1;", 3, new int[] {1, 0, 0}, none).reach(0, 7), 0);
        // what lies next to the LAND has no VOTE
        x = heaps("rises 10;joins 20;", 4, new int[] {9, 11, 0, 9}, new int[] {0, 0, 10, 0});
        due.is("11 and 10", x.reach(1, 7), 0);
        x = heaps("rises 10;joins 20;", 4, new int[] {9, 10, 0, 9}, new int[] {0, 0, 11, 0});
        due.is("10 and 11", x.reach(2, 7), 1);
        x = heaps("rises 10;joins 20;", 4, new int[] {9, 10, 0, 9}, new int[] {0, 0, 10, 0});
        due.is("10 and 10", x.reach(2, 7), 0);
    }

    private static void lies(Due due) {
        due.holds("Promise 10", "How many grains of a BANK lie in a REACH; NONE when there are none such.");
        SiltShare x = Due.river(LAND + "joins 17;");
        due.is("lies(0, 0) at first", x.lies(0, 0), 0);
        x.flood(1);
        due.is("lies(2, 0)", x.lies(2, 0), 2);
        due.is("lies(2, 1)", x.lies(2, 1), 4);
        due.is("lies(2, 2)", x.lies(2, 2), 0);
        due.is("lies(4, 2)", x.lies(4, 2), 4);
        due.is("lies(5, 0)", x.lies(5, 0), -1);
        due.is("lies(0, 3)", x.lies(0, 3), -1);
        for (int none : NO_INDEX) {
            due.is("lies(" + none + ", 0)", x.lies(none, 0), -1);
            due.is("lies(0, " + none + ")", x.lies(0, none), -1);
        }
    }

    private static void shares(Due due) {
        due.holds(III, "SHARE of an OWNER of a REACH: of 1000 of what lies there (floor; 0 of none).");
        SiltShare x = Due.river(LAND + "joins 17;");
        due.is("share of none", x.share(0, 0), 0);
        due.is("share of none", x.share(4, 1), 0);
        x.flood(1);
        due.is("share(2, 0)", x.share(2, 0), 333);
        due.is("share(2, 1)", x.share(2, 1), 666);
        due.is("share(1, 0)", x.share(1, 0), 500);
        due.is("share(0, 0)", x.share(0, 0), 1000);
        due.is("share(0, 1)", x.share(0, 1), 0);
        x.rake(2, 1, 2, 3);
        due.is("share(2, 1) raked among his own", x.share(2, 1), 666);
        SiltShare y = heaps("", 3, new int[] {1, 98, 0}, new int[] {99, 1, 0});
        due.is("1 of 100", y.share(0, 0), 10);
        due.is("99 of 100", y.share(0, 1), 990);
        due.is("98 of 99", y.share(1, 0), 989);
        due.is("1 of 99", y.share(1, 1), 10);
        due.holds("Promise 11", "SHARE of an OWNER of a REACH, in thousandths; NONE when there are none such.");
        due.is("share(1, 0)", x.share(1, 0), 500);
        due.is("share(5, 0)", x.share(5, 0), -1);
        due.is("share(0, 2)", x.share(0, 2), -1);
        for (int none : NO_INDEX) {
            due.is("share(" + none + ", 0)", x.share(none, 0), -1);
            due.is("share(0, " + none + ")", x.share(0, none), -1);
        }
    }

    private static void tints(Due due) {
        due.holds("Promise 12", "How many grains of a COLOUR lie in a REACH; NONE when there are none such.");
        SiltShare x = Due.river(LAND + "joins 17;");
        due.is("tint(0, 0) at first", x.tint(0, 0), 0);
        x.flood(1);
        due.is("tint(2, 0)", x.tint(2, 0), 2);
        due.is("tint(2, 1)", x.tint(2, 1), 4);
        due.is("tint(2, 2)", x.tint(2, 2), 0);
        x.rake(2, 1, 2, 3);
        due.is("tint(2, 0) raked", x.tint(2, 0), 5);
        due.is("tint(2, 1) raked", x.tint(2, 1), 1);
        due.is("tint(4, 0)", x.tint(4, 0), 4);
        due.is("tint(5, 0)", x.tint(5, 0), -1);
        due.is("tint(0, 3)", x.tint(0, 3), -1);
        for (int none : NO_INDEX) {
            due.is("tint(" + none + ", 0)", x.tint(none, 0), -1);
            due.is("tint(0, " + none + ")", x.tint(0, none), -1);
        }
    }
}
