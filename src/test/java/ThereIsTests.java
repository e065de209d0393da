/** Promises 6 to 12: what there is, NAMES, BANKS, REACHES, what lies there and whose it is. */
public final class ThereIsTests {
    private static final String LAND = "river 5;slope 2 at 0;slope 9 at 4;owner ann;owner bobby;colour red;colour blue;"
        + "colour zz;bank up of ann colour red at 0 holds 40 size 3;bank lowest of bobby colour blue at 1 holds 30 size 5;"
        + "bank c of bobby colour red at 4 holds 20 size 9;cut 10;settle 4;rises 8;";

    public static void main(String[] args) {
        Due due = new Due("ThereIsTests");
        counts(due);
        letters(due);
        banks(due);
        reaches(due);
        joins(due);
        votes(due);
        heaps(due);
        noneSuch(due);
        due.finish();
    }

    private static void all(Due due, String name, int[] got, int... want) {
        for (int i = 0; i < want.length; i++) {
            due.is(name + " no. " + i, got[i], want[i]);
        }
    }

    private static int[] has(SiltShare x) {
        int[] row = new int[14];
        for (int i = 0; i < row.length; i++) {
            row[i] = x.has(i);
        }
        return row;
    }

    private static int[] reach(SiltShare x, int reach) {
        int[] row = new int[9];
        for (int i = 0; i < row.length; i++) {
            row[i] = x.reach(reach, i);
        }
        return row;
    }

    private static int[] bank(SiltShare x, int bank) {
        int[] row = new int[8];
        for (int i = 0; i < row.length; i++) {
            row[i] = x.bank(bank, i);
        }
        return row;
    }

    private static void counts(Due due) {
        SiltShare x = Due.river(LAND + "joins 17;ebb 3;");
        all(due, "has", has(x), 5, 2, 3, 3, 8, 17, 3, 0, 0, 90, 0, 0, 0, -1);
        due.is("flood(1)", x.flood(1), 24);
        // no heap is so great that 3 of 100 of it are a grain
        all(due, "has", has(x), 5, 2, 3, 3, 8, 17, 3, 1, 0, 60, 24, 6, 1, -1);
        x.stone(1, true);
        x.stone(1, true);
        x.stone(4, true);
        all(due, "has", has(x), 5, 2, 3, 3, 8, 17, 3, 1, 3, 60, 24, 6, 4, -1);
        due.is("has(-1)", x.has(-1), -1);
        due.is("has(MIN)", x.has(Integer.MIN_VALUE), -1);
    }

    private static void letters(Due due) {
        SiltShare x = Due.river(LAND);
        int[] lowest = {12, 15, 23, 5, 19, 20};
        int[] bobby = {2, 15, 2, 2, 25, 0};
        int[] zz = {26, 26, 0, 0, 0, 0};
        for (int k = 0; k < 6; k++) {
            due.is("letter(2, 1, " + k + ")", x.letter(2, 1, k), lowest[k]);
            due.is("letter(0, 1, " + k + ")", x.letter(0, 1, k), bobby[k]);
            due.is("letter(1, 2, " + k + ")", x.letter(1, 2, k), zz[k]);
        }
        due.is("letter(0, 0, 0)", x.letter(0, 0, 0), 1);
        due.is("letter(0, 0, 6)", x.letter(0, 0, 6), -1);
        due.is("letter(0, 0, -1)", x.letter(0, 0, -1), -1);
        due.is("letter(0, 2, 0)", x.letter(0, 2, 0), -1);
        due.is("letter(1, 3, 0)", x.letter(1, 3, 0), -1);
        due.is("letter(2, 3, 0)", x.letter(2, 3, 0), -1);
        due.is("letter(2, -1, 0)", x.letter(2, -1, 0), -1);
        due.is("letter(3, 0, 0)", x.letter(3, 0, 0), -1);
        due.is("letter(-1, 0, 0)", x.letter(-1, 0, 0), -1);
    }

    private static void banks(Due due) {
        SiltShare x = Due.river(LAND);
        all(due, "bank 0", bank(x, 0), 0, 0, 0, 3, 40, 0, 0, -1);
        all(due, "bank 1", bank(x, 1), 1, 1, 1, 5, 30, 0, 0, -1);
        x.flood(1);
        all(due, "bank 0", bank(x, 0), 0, 0, 0, 3, 30, 10, 0, -1);
        all(due, "bank 1", bank(x, 1), 1, 1, 1, 5, 20, 10, 0, -1);
        all(due, "bank 2", bank(x, 2), 1, 0, 4, 9, 10, 4, 6, -1);
        due.is("bank(3, 0)", x.bank(3, 0), -1);
        due.is("bank(-1, 0)", x.bank(-1, 0), -1);
        due.is("bank(0, -1)", x.bank(0, -1), -1);
    }

    private static void reaches(Due due) {
        SiltShare x = Due.river(LAND + "joins 17;");
        all(due, "reach 4", reach(x, 4), 9, 0, 0, 0, -1, -1, -1, -1, -1);
        x.flood(1);
        x.stone(3, true);
        // r0: 4 of ann; r1: 4 and 4; r2: 2 and 4; r3: 2 of bobby; r4: 4 of bobby
        all(due, "reach 0", reach(x, 0), 2, 0, 4, 0, 0, -1, -1, -1, -1);
        all(due, "reach 1", reach(x, 1), 0, 0, 8, 1, -1, 1, 1, 0, -1);
        all(due, "reach 2", reach(x, 2), 0, 0, 6, 0, 1, -1, -1, -1, -1);
        all(due, "reach 3", reach(x, 3), 0, 1, 2, 0, 1, -1, -1, -1, -1);
        all(due, "reach 4", reach(x, 4), 9, 0, 4, 0, 1, -1, -1, -1, -1);
        x.flood(1);
        // r0: 8, 0; r1: 8, 8; r2: 4, 8; r3: 0, 4; r4: 0, 8
        all(due, "reach 0", reach(x, 0), 2, 0, 8, 1, 0, 0, 2, 0, -1);
        all(due, "reach 1", reach(x, 1), 0, 0, 16, 1, -1, 0, 2, 0, -1);
        all(due, "reach 2", reach(x, 2), 0, 0, 12, 1, 1, 0, 2, 0, -1);
        all(due, "reach 3", reach(x, 3), 0, 1, 4, 0, 1, -1, -1, -1, -1);
        all(due, "reach 4", reach(x, 4), 9, 0, 8, 1, 1, 4, 4, 1, -1);
    }

    /** Two ISLANDS join by just so many grains in both, not by one less. */
    private static void joins(Due due) {
        int[] joins = {24, 25, 28, 29};
        int[] from0 = {0, 0, 0, 0};
        int[] to0 = {2, 0, 0, 0};
        int[] from1 = {0, 1, 1, 1};
        int[] to1 = {2, 2, 2, 1};
        int[] from2 = {0, 1, 1, 2};
        for (int i = 0; i < joins.length; i++) {
            SiltShare x = Due.river(LAND + "joins " + joins[i] + ";");
            x.flood(1);
            x.flood(1);
            due.is("first of 0 by joins " + joins[i], x.reach(0, 5), from0[i]);
            due.is("last of 0 by joins " + joins[i], x.reach(0, 6), to0[i]);
            due.is("first of 1 by joins " + joins[i], x.reach(1, 5), from1[i]);
            due.is("last of 1 by joins " + joins[i], x.reach(1, 6), to1[i]);
            due.is("first of 2 by joins " + joins[i], x.reach(2, 5), from2[i]);
            due.is("last of 2 by joins " + joins[i], x.reach(2, 6), 2);
        }
        // with one that is no ISLAND between them, or that is none itself, none join
        SiltShare y = Due.river(LAND + "joins 1;rises 13;");
        y.flood(1);
        y.flood(1);
        due.is("reach(1, 5)", y.reach(1, 5), 1);
        due.is("reach(1, 6)", y.reach(1, 6), 1);
        due.is("reach(0, 5)", y.reach(0, 5), -1);
        due.is("reach(2, 3)", y.reach(2, 3), 0);
    }

    private static void votes(Due due) {
        SiltShare x = Due.river(LAND + "joins 17;");
        x.flood(1);
        x.flood(1);
        // ann has 20 of the LAND 0 .. 2, bobby 16: by two grains raked it is 18 and 18
        due.is("rake", x.rake(2, 0, 1, 2), true);
        due.is("vote of like ones", x.reach(1, 7), 0);
        due.is("rake", x.rake(2, 0, 1, 1), true);
        due.is("vote", x.reach(1, 7), 1);
        due.is("vote of another LAND", x.reach(4, 7), 1);
        // BANK c is bobby's too
        due.is("majority", x.reach(1, 4), -1);
        due.is("rake", x.rake(1, 0, 2, 1), true);
        due.is("majority", x.reach(1, 4), 1);
    }

    private static void heaps(Due due) {
        SiltShare x = Due.river(LAND + "joins 17;");
        due.is("share of none", x.share(0, 0), 0);
        x.flood(1);
        due.is("lies(2, 0)", x.lies(2, 0), 2);
        due.is("lies(2, 1)", x.lies(2, 1), 4);
        due.is("lies(2, 2)", x.lies(2, 2), 0);
        due.is("share(2, 0)", x.share(2, 0), 333);
        due.is("share(2, 1)", x.share(2, 1), 666);
        due.is("share(1, 0)", x.share(1, 0), 500);
        due.is("share(0, 0)", x.share(0, 0), 1000);
        due.is("share(0, 1)", x.share(0, 1), 0);
        due.is("tint(2, 0)", x.tint(2, 0), 2);
        due.is("tint(2, 1)", x.tint(2, 1), 4);
        due.is("tint(2, 2)", x.tint(2, 2), 0);
        x.rake(2, 1, 2, 3);
        due.is("tint(2, 0) raked", x.tint(2, 0), 5);
        due.is("tint(2, 1) raked", x.tint(2, 1), 1);
        due.is("share(2, 1) raked among his own", x.share(2, 1), 666);
    }

    private static void noneSuch(Due due) {
        SiltShare x = Due.river(LAND);
        x.flood(1);
        due.is("reach(5, 0)", x.reach(5, 0), -1);
        due.is("reach(-1, 0)", x.reach(-1, 0), -1);
        due.is("reach(0, -1)", x.reach(0, -1), -1);
        due.is("lies(5, 0)", x.lies(5, 0), -1);
        due.is("lies(0, 3)", x.lies(0, 3), -1);
        due.is("lies(-1, 0)", x.lies(-1, 0), -1);
        due.is("lies(0, -1)", x.lies(0, -1), -1);
        due.is("share(5, 0)", x.share(5, 0), -1);
        due.is("share(0, 2)", x.share(0, 2), -1);
        due.is("share(-1, 0)", x.share(-1, 0), -1);
        due.is("share(0, -1)", x.share(0, -1), -1);
        due.is("tint(5, 0)", x.tint(5, 0), -1);
        due.is("tint(0, 3)", x.tint(0, 3), -1);
        due.is("tint(-1, 0)", x.tint(-1, 0), -1);
        due.is("tint(0, -1)", x.tint(0, -1), -1);
    }
}
