/** What term III tells of STONES, UNTIL, FOUND and FORGED, and promises 24 to 29. */
public final class SeekingTests {
    private static final String III = "Term III";
    private static final int[] NO_INDEX = {-1, -2, Integer.MIN_VALUE, Integer.MAX_VALUE};
    private static final String RIVER = "river 3;slope 2 at 0;slope 4 at 1;owner a;owner b;colour c;colour d;"
        + "bank u of a colour c at 0 holds 60 size 4;bank v of b colour d at 1 holds 50 size 3;cut flow*2;";

    public static void main(String[] args) {
        Due due = new Due("SeekingTests");
        mine(due);
        inPlaceOfAll(due);
        twoAtMost(due);
        fewest(due);
        likeOnes(due);
        mineEdges(due);
        noMine(due);
        keep(due);
        keepLikeOnes(due);
        noKeep(due);
        until(due);
        untilTwenty(due);
        yearsEnd(due);
        untilWithInterest(due);
        noUntil(due);
        find(due);
        noFind(due);
        levels(due);
        foundGoes(due);
        forged(due);
        noForged(due);
        due.finish();
    }

    private static void mined(Due due, SiltShare x, int owner, int reach, int level, int share, int... want) {
        String call = "mine(" + owner + ", " + reach + ", " + level + ", " + share + ", ";
        for (int k = -1; k < want.length - 1; k++) {
            due.is(call + k + ")", x.mine(owner, reach, level, share, k), want[k + 1]);
        }
    }

    private static void mine(Due due) {
        due.holds("Promise 24", "STONES by which a FLOOD of a LEVEL would leave an OWNER a SHARE (0 .. 1000) of a REACH: how many (k NONE), those of REACH k.");
        SiltShare x = Due.river(RIVER);
        // LEVEL 3: FLOW 5, 7, 3. u is cut 10, v 14; of size 4 u settles in 2, v of size 3 goes to the sea.
        mined(due, x, 0, 2, 3, 1000, 0, 0, 0, 0, -1);
        mined(due, x, 0, 2, 3, 0, 0, 0, 0, 0, -1);
        // one stone in 0: FLOW 2, 4 of u settle there
        mined(due, x, 0, 0, 3, 1, 1, 1, 0, 0, -1);
        mined(due, x, 0, 0, 3, 1000, 1, 1, 0, 0, -1);
        // in 1 by two stones: FLOW 1, v's 2 and u's 10: of 12
        mined(due, x, 0, 1, 3, 833, 2, 0, 2, 0, -1);
        mined(due, x, 0, 1, 3, 834, -1, -1, -1, -1, -1);
        mined(due, x, 1, 1, 3, 166, 2, 0, 2, 0, -1);
        // 166 of 1000 by 2 of 12; all of it when u's grains settle ahead
        mined(due, x, 1, 1, 3, 167, 3, 1, 2, 0, -1);
        mined(due, x, 1, 1, 3, 1000, 3, 1, 2, 0, -1);
        mined(due, x, 1, 0, 3, 1, -1, -1, -1, -1, -1);
        // a frozen YEAR leaves what lies there
        mined(due, x, 0, 2, 0, 1, -1, -1, -1, -1, -1);
        mined(due, x, 0, 2, 0, 0, 0, 0, 0, 0, -1);
        x = Due.river(RIVER + "ebb 50;");
        x.flood(3);
        due.is("share(2, 0)", x.share(2, 0), 1000);
        mined(due, x, 0, 2, 0, 1000, 0, 0, 0, 0, -1);
        mined(due, x, 1, 2, 0, 1, -1, -1, -1, -1, -1);
        // what lies there counts, and no INTEREST: u's 5 lie in 2, 10 more come; a stone there stops v's 14, one in 0 u's
        mined(due, x, 1, 2, 3, 482, 1, 0, 0, 1, -1);
        mined(due, x, 1, 2, 3, 483, 2, 1, 0, 1, -1);
        mined(due, x, 1, 2, 3, 736, 2, 1, 0, 1, -1);
        mined(due, x, 1, 2, 3, 737, -1, -1, -1, -1, -1);
        due.is("nothing has changed", x.has(7), 1);
    }

    private static void inPlaceOfAll(Due due) {
        due.holds(III, "STONES: other ones, 0 to 2 in each REACH in place of all there are:");
        SiltShare x = Due.river(RIVER);
        x.stone(0, true);
        x.stone(1, true);
        x.stone(2, true);
        mined(due, x, 0, 2, 3, 1000, 0, 0, 0, 0, -1);
        mined(due, x, 1, 1, 3, 167, 3, 1, 2, 0, -1);
        due.is("stones stay", x.has(8), 3);
        due.is("settles as stones are", x.settles(0, 0, 3), 4);
        // by the three stones that lie in 1 b's grains would settle; by two they don't
        SiltShare y = Due.river("river 3;owner a;owner b;colour c;bank v of b colour c at 1 holds 50 size 3;cut 9;settle stones/3*9;");
        for (int i = 0; i < 3; i++) {
            y.stone(1, true);
        }
        due.is("settles(1, 0, 5)", y.settles(1, 0, 5), 9);
        mined(due, y, 1, 1, 5, 1, -1, -1, -1, -1, -1);
    }

    private static void twoAtMost(Due due) {
        due.holds(III, "0 to 2 in each REACH");
        // a's 9 fall in 2 by so many stones in 0, 1 and 2 together
        String text = "river 3;owner a;colour c;bank v of a colour c at 2 holds 9 size 9;bank u of a colour c at 0 holds 9 size 9;bank w of a colour c at 1 holds 9 size 9;";
        String cut = "cut 9;";
        for (int stones = 0; stones <= 3; stones++) {
            SiltShare x = Due.river(text + cut + "settle (stones+1)/(1+" + stones + ")*9;");
            for (int r = 0; r < 3; r++) {
                int[] want = {stones, 0, 0, 0, -1};
                want[1 + r] = stones;
                mined(due, x, 0, r, 4, 1, stones > 2 ? new int[] {-1, -1, -1, -1, -1} : want);
            }
        }
    }

    private static void fewest(Due due) {
        due.holds(III, "the fewest together by which a FLOOD of a LEVEL would leave an OWNER so great a SHARE of a REACH (at least), or a BANK so many grains "
            + "that it holds (at least);");
        // a's 10 fall in 2 by two stones there, b's 4 ahead, one by each stone
        SiltShare x = Due.river("river 3;owner a;owner b;colour c;bank u of a colour c at 2 holds 10 size 1;bank v of b colour c at 0 holds 4 size 1;"
            + "cut 99;settle (1-place/2)*stones+place/2*(stones/2)*99;");
        mined(due, x, 0, 2, 1, 713, 2, 0, 0, 2, -1);
        mined(due, x, 0, 2, 1, 714, 2, 0, 0, 2, -1);
        mined(due, x, 0, 2, 1, 715, 3, 0, 1, 2, -1);
        mined(due, x, 0, 2, 1, 769, 3, 0, 1, 2, -1);
        mined(due, x, 0, 2, 1, 770, 4, 0, 2, 2, -1);
        mined(due, x, 0, 2, 1, 833, 4, 0, 2, 2, -1);
        mined(due, x, 0, 2, 1, 834, 5, 1, 2, 2, -1);
        mined(due, x, 0, 2, 1, 909, 5, 1, 2, 2, -1);
        mined(due, x, 0, 2, 1, 910, 6, 2, 2, 2, -1);
        mined(due, x, 0, 2, 1, 1000, 6, 2, 2, 2, -1);
        // one stone in the last REACH is fewer than two in the first
        x = Due.river("river 3;owner a;owner b;colour c;bank u of a colour c at 0 holds 10 size 1;cut 10;"
            + "settle (2-place)/2*(stones/2)*9+place/2*(9*stones+held/10*0);");
        mined(due, x, 0, 2, 1, 1, 1, 0, 0, 1, -1);
        // all eight REACHES: by less than two stones in each none is left to settle
        x = Due.river("river 8;owner a;owner b;colour c;bank u of a colour c at 0 holds 14 size 1;bank v of b colour c at 7 holds 1 size 1;"
            + "cut 99;settle stones+place/7*9;");
        mined(due, x, 1, 7, 1, 1000, 14, 2, 2, 2, 2, 2, 2, 2, 0, -1);
        mined(due, x, 1, 7, 1, 333, 12, 0, 2, 2, 2, 2, 2, 2, 0, -1);
        mined(due, x, 1, 7, 1, 334, 13, 1, 2, 2, 2, 2, 2, 2, 0, -1);
    }

    private static void likeOnes(Due due) {
        due.holds(III, "of like ones the first by REACHES (fewer ahead).");
        // all the stones ahead count alike: grains fall in 3 by the number of stones in 0 .. 3 together
        String text = "river 4;owner a;owner b;colour c;bank u of a colour c at 0 holds 99 size 1;bank v of b colour c at 3 holds 10 size 1;"
            + "cut 99;";
        SiltShare x = Due.river(text + "settle (3-place)*stones*10+place/3*99;");
        // u falls in 3 less what settles ahead; b has 10 of 109 there by none: 91 of 1000
        mined(due, x, 1, 3, 1, 91, 0, 0, 0, 0, 0);
        // 10 of 99 or less: by 10 settled ahead; a stone in 2 does it with 10, in 1 with 20, in 0 with 30
        mined(due, x, 1, 3, 1, 92, 1, 0, 0, 1, 0);
        mined(due, x, 1, 3, 1, 101, 1, 0, 0, 1, 0);
        mined(due, x, 1, 3, 1, 102, 1, 0, 1, 0, 0);
        mined(due, x, 1, 3, 1, 113, 1, 1, 0, 0, 0);
        // 40 settled ahead: by two stones 30 + 10, 20 + 20, 60, 30 + 20: the fewest in 0 first
        mined(due, x, 1, 3, 1, 127, 2, 0, 2, 0, 0);
        mined(due, x, 1, 3, 1, 145, 2, 1, 1, 0, 0);
        mined(due, x, 1, 3, 1, 204, 2, 2, 0, 0, 0);
        // 70 settled ahead, 30 + 40 or 60 + 10; 71 and more; 90, 60 + 20 + 10; at most all
        mined(due, x, 1, 3, 1, 256, 3, 1, 2, 0, 0);
        mined(due, x, 1, 3, 1, 257, 3, 2, 1, 0, 0);
        mined(due, x, 1, 3, 1, 526, 4, 2, 1, 1, 0);
        mined(due, x, 1, 3, 1, 1000, 4, 2, 2, 0, 0);
        // stones there and behind it
        x = Due.river(text + "settle stones*5;");
        mined(due, x, 1, 3, 1, 500, 1, 0, 0, 0, 1);
        mined(due, x, 1, 3, 1, 501, -1, -1, -1, -1, -1);
        mined(due, x, 0, 1, 1, 1, 1, 0, 1, 0, 0);
        // each stone ahead lets one of a's four settle there, wherever it is
        x = Due.river("river 4;owner a;owner b;colour c;bank u of a colour c at 0 holds 4 size 1;bank v of b colour c at 3 holds 2 size 1;"
            + "cut 99;settle min(1,3-place)*stones+place/3*99;");
        mined(due, x, 1, 3, 1, 333, 0, 0, 0, 0, 0);
        mined(due, x, 1, 3, 1, 334, 1, 0, 0, 1, 0);
        mined(due, x, 1, 3, 1, 500, 2, 0, 0, 2, 0);
        mined(due, x, 1, 3, 1, 501, 3, 0, 1, 2, 0);
        mined(due, x, 1, 3, 1, 1000, 4, 0, 2, 2, 0);
    }

    private static void mineEdges(Due due) {
        due.holds("Promise 24", "NONE when none do, something can't be, or for others.");
        SiltShare x = Due.river(RIVER);
        mined(due, x, 0, 1, 3, 834, -1, -1, -1, -1, -1);
        mined(due, x, 1, 0, 3, 1, -1, -1, -1, -1, -1);
        due.is("mine of no OWNER", x.mine(2, 0, 3, 0, -1), -1);
        due.is("mine in no REACH", x.mine(0, 3, 3, 0, -1), -1);
        due.is("mine of no LEVEL", x.mine(0, 0, 10, 0, -1), -1);
        due.is("mine of no SHARE", x.mine(0, 0, 3, 1001, -1), -1);
        due.is("mine for others", x.mine(0, 0, 3, 0, 3), -1);
        due.is("mine for others", x.mine(0, 0, 3, 0, -2), -1);
        due.is("mine for others", x.mine(0, 0, 3, 0, Integer.MIN_VALUE), -1);
        due.is("mine for others", x.mine(0, 0, 3, 0, Integer.MAX_VALUE), -1);
        for (int none : NO_INDEX) {
            due.is("mine of OWNER " + none, x.mine(none, 0, 3, 0, -1), -1);
            due.is("mine in REACH " + none, x.mine(0, none, 3, 0, -1), -1);
            due.is("mine of LEVEL " + none, x.mine(0, 0, none, 0, -1), -1);
            due.is("mine of SHARE " + none, x.mine(0, 0, 3, none, -1), -1);
        }
        due.is("mine of SHARE 1001 where 1000 is", x.mine(0, 2, 3, 1001, -1), -1);
        due.is("mine of SHARE 1000", x.mine(0, 2, 3, 1000, -1), 0);
        due.is("mine of SHARE -1", x.mine(0, 2, 3, -1, -1), -1);
        due.is("mine of SHARE 0", x.mine(1, 0, 3, 0, -1), 0);
        due.is("mine of LEVEL 0", x.mine(1, 0, 0, 0, 2), 0);
        due.is("mine of LEVEL 9", x.mine(1, 0, 9, 0, 2), 0);
        due.is("mine in the last REACH", x.mine(1, 2, 9, 0, 2), 0);
    }

    private static void noMine(Due due) {
        due.holds("Promise 24", "something can't be");
        SiltShare x = new SiltShare();
        due.is("mine without a river", x.mine(0, 0, 1, 0, -1), -1);
        due.is("mine of no OWNER at all", Due.river("river 3;").mine(0, 0, 1, 0, -1), -1);
        x = Due.river("river 8;owner a;");
        due.is("mine of nothing", x.mine(0, 7, 1, 0, 7), 0);
        due.is("mine of nothing, REACH 8", x.mine(0, 7, 1, 0, 8), -1);
        due.is("mine of nothing a SHARE", x.mine(0, 7, 1, 1, -1), -1);
    }

    private static void kept(Due due, SiltShare x, int bank, int level, int grains, int... want) {
        String call = "keep(" + bank + ", " + level + ", " + grains + ", ";
        for (int k = -1; k < want.length - 1; k++) {
            due.is(call + k + ")", x.keep(bank, level, grains, k), want[k + 1]);
        }
    }

    private static void keep(Due due) {
        due.holds("Promise 25", "STONES by which a FLOOD of a LEVEL would leave a BANK so many grains (0 .. 99), likewise.");
        SiltShare x = Due.river(RIVER);
        // v by LEVEL 3: FLOW 7, 4, 1: it keeps 36, 42, 48
        kept(due, x, 1, 3, 36, 0, 0, 0, 0, -1);
        kept(due, x, 1, 3, 37, 1, 0, 1, 0, -1);
        kept(due, x, 1, 3, 42, 1, 0, 1, 0, -1);
        kept(due, x, 1, 3, 43, 2, 0, 2, 0, -1);
        kept(due, x, 1, 3, 48, 2, 0, 2, 0, -1);
        kept(due, x, 1, 3, 49, -1, -1, -1, -1, -1);
        kept(due, x, 1, 3, 0, 0, 0, 0, 0, -1);
        for (int i = 0; i < 3; i++) {
            x.stone(1, true);
        }
        kept(due, x, 1, 3, 36, 0, 0, 0, 0, -1);
        kept(due, x, 1, 3, 37, 1, 0, 1, 0, -1);
        // by the three stones it keeps all of its 50
        due.is("cuts(1, 3)", x.cuts(1, 3), 0);
        kept(due, x, 1, 3, 49, -1, -1, -1, -1, -1);
        kept(due, x, 0, 0, 60, 0, 0, 0, 0, -1);
        kept(due, x, 0, 0, 61, -1, -1, -1, -1, -1);
        x.flood(3);
        kept(due, x, 0, 0, 50, 0, 0, 0, 0, -1);
        kept(due, x, 0, 0, 51, -1, -1, -1, -1, -1);
        due.is("nothing has changed", x.has(7), 1);
        due.is("stones stay", x.has(8), 3);
    }

    private static void keepLikeOnes(Due due) {
        due.holds(III, "or a BANK so many grains that it holds (at least);");
        // a stone alone may be worse than none and two
        SiltShare x = Due.river("river 3;owner a;colour c;bank u of a colour c at 2 holds 99 size 1;cut 50+(stones*2-3)*(stones-1)*30;");
        kept(due, x, 0, 5, 0, 0, 0, 0, 0, -1);
        kept(due, x, 0, 5, 49, 1, 0, 0, 1, -1);
        kept(due, x, 0, 5, 50, -1, -1, -1, -1, -1);
        kept(due, x, 0, 0, 99, 0, 0, 0, 0, -1);
        x = Due.river("river 3;owner a;colour c;bank u of a colour c at 2 holds 99 size 1;cut 9*(2-stones)*stones+2-stones;");
        kept(due, x, 0, 5, 97, 0, 0, 0, 0, -1);
        kept(due, x, 0, 5, 98, 2, 0, 0, 2, -1);
        kept(due, x, 0, 5, 99, 2, 0, 0, 2, -1);
    }

    private static void noKeep(Due due) {
        due.holds("Promise 25", "so many grains (0 .. 99), likewise.");
        SiltShare x = Due.river(RIVER);
        due.is("keep of no BANK", x.keep(2, 3, 0, -1), -1);
        due.is("keep of no LEVEL", x.keep(0, 10, 0, -1), -1);
        due.is("keep of 100", x.keep(0, 3, 100, -1), -1);
        due.is("keep for others", x.keep(0, 3, 0, 3), -1);
        due.is("keep for others", x.keep(0, 3, 0, -2), -1);
        due.is("keep for others", x.keep(0, 3, 0, Integer.MAX_VALUE), -1);
        due.is("keep for others", x.keep(0, 3, 0, Integer.MIN_VALUE), -1);
        for (int none : NO_INDEX) {
            due.is("keep of BANK " + none, x.keep(none, 3, 0, -1), -1);
            due.is("keep of LEVEL " + none, x.keep(0, none, 0, -1), -1);
            due.is("keep of " + none, x.keep(0, 3, none, -1), -1);
        }
        due.is("keep of 0", x.keep(0, 3, 0, 2), 0);
        due.is("keep of LEVEL 0", x.keep(0, 0, 60, 2), 0);
        due.is("keep of LEVEL 9", x.keep(0, 9, 0, 2), 0);
        due.is("keep without a river", new SiltShare().keep(0, 3, 0, -1), -1);
        // more than 99 may be held, by AN IMAGE, but are not asked for
        SiltShare y = Due.river("river 3;owner a;colour c;bank u of a colour c at 0 holds 99 size 1;bank v of a colour c at 0 holds 99 size 1;");
        int[] image = new int[24];
        image[17] = 120;
        image[20] = 78;
        int check = 173;
        for (int i = 0; i < 23; i++) {
            check = (3 * check + image[i]) % 251;
        }
        image[23] = check;
        Due.tellBytes(y, image);
        due.is("on()", y.on(), true);
        due.is("keep of 99 of 120", y.keep(0, 3, 99, -1), 0);
        due.is("keep of 100 of 120", y.keep(0, 3, 100, -1), -1);
    }

    private static void until(Due due) {
        due.holds(III, "UNTIL: the fewest FLOODS of one LEVEL, one behind the other (YEAR by YEAR, with INTEREST; 20 at most), behind which an OWNER has the "
            + "MAJORITY of a REACH (0: he has it).");
        // by each FLOOD 10 of each fall in 0, as long as b's BANK has them
        String text = "river 3;owner a;owner b;colour c;bank u of a colour c at 0 holds 99 size 9;bank v of b colour c at 0 holds 35 size 9;"
            + "cut 10;";
        SiltShare x = Due.river(text);
        due.is("until of like ones", x.until(0, 0, 1), 4);
        due.is("until(1, ..)", x.until(1, 0, 1), -1);
        // v has 10 10 10 5: 40 against 35 behind four FLOODS
        for (int i = 0; i < 3; i++) {
            x.flood(1);
        }
        due.is("until(0, 0, 1) three FLOODS later", x.until(0, 0, 1), 1);
        x.flood(1);
        due.is("until(0, 0, 1): he has it", x.until(0, 0, 1), 0);
        due.is("until(0, 0, 0): he has it", x.until(0, 0, 0), 0);
        due.is("nothing has changed", x.has(7), 4);
        due.is("nothing has changed", x.has(12), 4);
        due.is("until(0, 1, 1)", x.until(0, 1, 1), -1);
        SiltShare y = Due.river("river 3;owner a;colour c;bank u of a colour c at 2 holds 99 size 9;cut level/9*1;");
        due.is("until(0, 2, 9)", y.until(0, 2, 9), -1);
        y.stone(2, true);
        due.is("until(0, 2, 9) by a stone", y.until(0, 2, 9), 1);
        due.is("until(0, 2, 8)", y.until(0, 2, 8), -1);
    }

    private static final String ALONE = "river 3;owner a;colour c;bank u of a colour c at 0 holds 99 size 9;";

    private static void untilTwenty(Due due) {
        due.holds("Promise 26", "UNTIL: how many FLOODS; NONE when 20 are not enough");
        // grains come from one YEAR on: 20 FLOODS are enough for YEAR 19, not for YEAR 20
        SiltShare x = Due.river(ALONE + "cut year-17;");
        due.is("until behind 19", x.until(0, 0, 1), 19);
        x = Due.river(ALONE + "cut year-18;");
        due.is("until behind 20", x.until(0, 0, 1), 20);
        x = Due.river(ALONE + "cut year-19;");
        due.is("until behind 21", x.until(0, 0, 1), -1);
        x.flood(0);
        due.is("until a YEAR later", x.until(0, 0, 1), 20);
        due.is("until by frozen YEARS", x.until(0, 0, 0), -1);
        due.is("until at once", Due.river(ALONE + "cut 1;").until(0, 0, 1), 1);
        due.is("until of nothing", Due.river(ALONE).until(0, 0, 1), -1);
    }

    private static SiltShare inYear(String text, int year) {
        SiltShare x = Due.river(text);
        for (int i = 0; i < year / 50; i++) {
            x.years(50);
        }
        if (year % 50 > 0) {
            x.years(year % 50);
        }
        return x;
    }

    private static void yearsEnd(Due due) {
        due.holds("Promise 26", "(or YEARS end ahead of that)");
        due.is("until by the last YEAR", inYear(ALONE + "cut year-997;", 990).until(0, 0, 1), 9);
        due.is("until by the last YEAR", inYear(ALONE + "cut year-997;", 979).until(0, 0, 1), 20);
        due.is("until by YEAR 997", inYear(ALONE + "cut year-996;", 990).until(0, 0, 1), 8);
        due.is("until behind the last YEAR", inYear(ALONE + "cut year-998;", 990).until(0, 0, 1), -1);
        SiltShare x = inYear(ALONE + "cut year-997;", 999);
        due.is("in YEAR 999: he has it", x.until(0, 0, 1), x.lies(0, 0) > 0 ? 0 : -1);
        x = inYear(ALONE + "cut max(0,year-997);", 998);
        due.is("in YEAR 998", x.until(0, 0, 1), 1);
        x.flood(0);
        due.is("in YEAR 999", x.until(0, 0, 1), -1);
        due.is("has(7)", x.has(7), 999);
        x.undo();
        x.flood(1);
        due.is("in YEAR 999: he has it", x.until(0, 0, 1), 0);
    }

    /** By INTEREST a's heap falls, 9, 5, 3, 2, 1, and b's two single grains stay. */
    private static void untilWithInterest(Due due) {
        due.holds(III, "(YEAR by YEAR, with INTEREST; 20 at most)");
        String text = "river 3;owner a;owner b;colour c;bank u of a colour c at 0 holds 18 size 9;bank v of b colour c at 0 holds 1 size 9;"
            + "bank w of b colour c at 0 holds 1 size 9;cut 18;ebb 50;";
        SiltShare x = Due.river(text);
        x.flood(1);
        due.is("lies(0, 0)", x.lies(0, 0), 9);
        due.is("lies(0, 1)", x.lies(0, 1), 1);
        due.is("until(0, 0, 1)", x.until(0, 0, 1), 0);
        due.is("until(1, 0, 1) by INTEREST", x.until(1, 0, 1), 4);
        due.is("until(1, 0, 0) by INTEREST of frozen YEARS", x.until(1, 0, 0), 4);
    }

    private static void noUntil(Due due) {
        due.holds("Promise 26", "or something can't be.");
        SiltShare x = Due.river(RIVER);
        due.is("until(0, 2, 3)", x.until(0, 2, 3), 1);
        due.is("until of no LEVEL", x.until(0, 2, 10), -1);
        due.is("until of no OWNER", x.until(2, 2, 3), -1);
        due.is("until in no REACH", x.until(0, 3, 3), -1);
        for (int none : NO_INDEX) {
            due.is("until of LEVEL " + none, x.until(0, 2, none), -1);
            due.is("until of OWNER " + none, x.until(none, 2, 3), -1);
            due.is("until in REACH " + none, x.until(0, none, 3), -1);
        }
        due.is("until without a river", new SiltShare().until(0, 0, 1), -1);
        due.is("until of no OWNER at all", Due.river("river 3;").until(0, 0, 1), -1);
    }

    private static final String FOUND = "river 3;owner a;colour c;bank u of a colour c at 0 holds 60 size 4;cut level*level*5;settle 20;ebb 50;";

    private static void find(Due due) {
        due.holds("Promise 27", "The tape (it goes) is what is FOUND, two bytes for each REACH (the higher first): true;");
        SiltShare x = Due.river(FOUND);
        Due.tellNumbers(x, 5, 0, 0);
        due.is("find()", x.find(), true);
        due.is("levels()", x.levels(), 1 << 1);
        due.is("the tape goes", x.end(1), false);
        for (int r = 0; r < 3; r++) {
            int[] found = {20, 20, 20};
            Due.tellNumbers(x, found);
            due.is("find()", x.find(), true);
            due.is("levels()", x.levels() > 1, true);
            found[r] += 256;
            Due.tellNumbers(x, found);
            due.is("find()", x.find(), true);
            due.is("levels() by the higher byte", x.levels(), 0);
            found[r] = 20 << 8;
            Due.tellNumbers(x, found);
            due.is("find()", x.find(), true);
            due.is("levels() by bytes the other way round", x.levels(), 0);
            found[r] = 65535;
            Due.tellNumbers(x, found);
            due.is("find() of the greatest", x.find(), true);
            due.is("levels() of the greatest", x.levels(), 0);
        }
        SiltShare y = Due.river("river 8;");
        Due.tellNumbers(y, 0, 0, 0, 0, 0, 0, 0, 0);
        due.is("find() of eight", y.find(), true);
        due.is("levels() of nothing", y.levels(), 1023);
        // more than a byte has: 99 each of three BANKS lie in 0
        SiltShare z = Due.river("river 3;owner a;colour c;bank u of a colour c at 0 holds 99 size 4;bank v of a colour c at 0 holds 99 size 4;"
            + "bank w of a colour c at 0 holds 99 size 4;cut 99;settle 99;");
        Due.tellNumbers(z, 297, 0, 0);
        due.is("find() of 297", z.find(), true);
        due.is("levels()", z.levels(), 1022);
        Due.tellNumbers(z, 41, 0, 0);
        z.find();
        due.is("levels() of 41", z.levels(), 0);
    }

    private static void noFind(Due due) {
        due.holds("Promise 27", "false, doing nothing else, when it is none such, or there is no river.");
        SiltShare x = Due.river(FOUND);
        due.is("find() of none", x.find(), false);
        due.is("levels()", x.levels(), -1);
        Due.tellNumbers(x, 5, 0, 0);
        x.find();
        Due.tellNumbers(x, 20, 20, 20, 0);
        due.is("find() of too many", x.find(), false);
        due.is("the tape goes", x.end(1), false);
        due.is("levels() stays", x.levels(), 2);
        Due.tellNumbers(x, 20, 20);
        due.is("find() of too few", x.find(), false);
        due.is("levels() stays", x.levels(), 2);
        for (int n : new int[] {1, 4, 5, 7, 8}) {
            Due.tellBytes(x, new int[n]);
            due.is("find() of " + n + " bytes", x.find(), false);
            due.is("the tape goes", x.end(1), false);
            due.is("levels() stays", x.levels(), 2);
        }
        due.is("find() of none", x.find(), false);
        due.is("levels() stays", x.levels(), 2);
        for (int what = 0; what < 6; what++) {
            due.is("status(" + what + ") but for end()", x.status(what), what == 0 ? 6 : 0);
        }
        SiltShare y = new SiltShare();
        Due.tellNumbers(y, 1, 2, 3);
        due.is("find() without a river", y.find(), false);
        due.is("the tape goes", y.end(1), false);
        due.is("find() of nothing without a river", y.find(), false);
        due.is("levels()", y.levels(), -1);
    }

    private static void levels(Due due) {
        due.holds("Promise 28", "LEVELS by what is FOUND, as bits; NONE when nothing is FOUND.");
        SiltShare x = Due.river(FOUND);
        due.is("levels() of nothing FOUND", x.levels(), -1);
        Due.tellNumbers(x, 0, 0, 0);
        x.find();
        due.is("levels(): 0 alone", x.levels(), 1);
        Due.tellNumbers(x, 20, 20, 20);
        x.find();
        due.is("levels(): 4 to 9", x.levels(), (1 << 10) - (1 << 4));
        Due.tellNumbers(x, 20, 20, 19);
        x.find();
        due.is("levels(): none", x.levels(), 0);
        due.holds(III, "FOUND is what lies in all REACHES: LEVELS 0 to 9 by which just so much would lie in each.");
        x = Due.river(FOUND.replace("cut level*level*5", "cut level*6"));
        int[][] each = {{0, 0, 0}, {6, 0, 0}, {12, 0, 0}, {18, 0, 0}, {20, 4, 0}, {20, 10, 0}, {20, 16, 0}, {20, 20, 2}, {20, 20, 8}, {20, 20, 14}};
        for (int level = 0; level < 10; level++) {
            Due.tellNumbers(x, each[level]);
            x.find();
            due.is("levels() of LEVEL " + level, x.levels(), 1 << level);
            for (int r = 0; r < 3; r++) {
                each[level][r]++;
                Due.tellNumbers(x, each[level]);
                x.find();
                due.is("levels() by one more in " + r, x.levels(), 0);
                each[level][r] -= 2;
                if (each[level][r] >= 0) {
                    Due.tellNumbers(x, each[level]);
                    x.find();
                    due.is("levels() by one less in " + r, x.levels(), 0);
                }
                each[level][r]++;
            }
        }
        // what lies there counts, and no INTEREST
        x = Due.river(FOUND);
        x.flood(2);
        Due.tellNumbers(x, 15, 0, 0);
        x.find();
        due.is("levels() with what lies", x.levels(), 1 << 1);
        x.undo();
        due.is("levels() after undo()", x.levels(), 0);
        x.flood(2);
        due.is("FOUND stays by ACTS", x.levels(), 1 << 1);
        due.is("nothing has changed", x.has(7), 1);
    }

    private static void foundGoes(Due due) {
        due.holds("Promise 28", "NONE when nothing is FOUND.");
        SiltShare x = Due.river(FOUND);
        Due.tellNumbers(x, 0, 0, 0);
        x.find();
        Due.tell(x, "oops");
        x.river();
        due.is("levels() behind a FAULT", x.levels(), 1);
        Due.tell(x, "total 1");
        x.ask();
        due.is("levels() behind ask()", x.levels(), 1);
        Due.tell(x, FOUND);
        x.river();
        due.is("levels() behind river()", x.levels(), -1);
        due.is("levels() without a river", new SiltShare().levels(), -1);
    }

    private static void forgedBy(Due due, SiltShare x, int reach, int want, int... told) {
        Due.tellNumbers(x, told);
        due.is("forged(" + reach + ")", x.forged(reach), want);
        due.is("the tape goes", x.end(1), false);
    }

    private static void forged(Due due) {
        due.holds(III, "FORGED: by told numbers of COLOURS in a REACH: how many are told above what lies there of each, together.");
        SiltShare x = Due.river(RIVER);
        x.flood(3);
        // 10 of c lie in 2
        forgedBy(due, x, 2, 5, 12, 3);
        forgedBy(due, x, 2, 3, 7, 3);
        forgedBy(due, x, 2, 2, 12, 0);
        forgedBy(due, x, 2, 0, 10, 0);
        forgedBy(due, x, 2, 1, 11, 0);
        forgedBy(due, x, 2, 0, 9, 0);
        forgedBy(due, x, 2, 0, 0, 0);
        forgedBy(due, x, 2, 1, 10, 1);
        forgedBy(due, x, 0, 13, 10, 3);
        due.holds("Promise 29", "FORGED, by the tape (it goes): two bytes for each COLOUR (the higher first), told of a REACH: how many;");
        forgedBy(due, x, 0, 65535 + 65535, 65535, 65535);
        forgedBy(due, x, 2, 256 + 246, 256, 256);
        forgedBy(due, x, 2, 255, 10, 255);
        forgedBy(due, x, 1, 1, 0, 1);
        SiltShare y = Due.river("river 3;");
        due.is("forged of no COLOURS", y.forged(2), 0);
        y = Due.river("river 8;colour a;colour b;colour c;colour d;colour e;");
        forgedBy(due, y, 7, 15, 1, 2, 3, 4, 5);
        forgedBy(due, y, 0, 5 * 65535, 65535, 65535, 65535, 65535, 65535);
        due.is("nothing has changed", x.has(10), 10);
    }

    private static void noForged(Due due) {
        due.holds("Promise 29", "NONE, doing nothing else, when it is none such.");
        SiltShare x = Due.river(RIVER);
        x.flood(3);
        forgedBy(due, x, 3, -1, 12, 0);
        for (int none : NO_INDEX) {
            forgedBy(due, x, none, -1, 12, 0);
        }
        forgedBy(due, x, 2, -1, 12);
        forgedBy(due, x, 2, -1, 12, 0, 0);
        for (int n : new int[] {0, 1, 3, 5}) {
            Due.tellBytes(x, new int[n]);
            due.is("forged of " + n + " bytes", x.forged(2), -1);
            due.is("the tape goes", x.end(1), false);
        }
        for (int what = 1; what < 6; what++) {
            due.is("status(" + what + ")", x.status(what), 0);
        }
        SiltShare y = Due.river("river 3;");
        due.is("forged of no COLOURS in no REACH", y.forged(3), -1);
        forgedBy(due, y, 2, -1, 1);
        due.is("forged without a river", new SiltShare().forged(0), -1);
        y = new SiltShare();
        forgedBy(due, y, 0, -1, 1);
    }
}
