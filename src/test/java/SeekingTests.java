/** Promises 24 to 29: stones sought, floods until, what is FOUND, what is FORGED. */
public final class SeekingTests {
    private static final String RIVER = "river 3;slope 2 at 0;slope 4 at 1;owner a;owner b;colour c;colour d;"
        + "bank u of a colour c at 0 holds 60 size 4;bank v of b colour d at 1 holds 50 size 3;cut flow*2;";

    public static void main(String[] args) {
        Due due = new Due("SeekingTests");
        mine(due);
        mineOfLikeOnes(due);
        mineWrong(due);
        keep(due);
        until(due);
        found(due);
        forged(due);
        due.finish();
    }

    private static void mined(Due due, SiltShare x, int owner, int reach, int level, int share, int... want) {
        String call = "mine(" + owner + ", " + reach + ", " + level + ", " + share + ", ";
        for (int k = -1; k < want.length - 1; k++) {
            due.is(call + k + ")", x.mine(owner, reach, level, share, k), want[k + 1]);
        }
    }

    private static void mine(Due due) {
        SiltShare x = Due.river(RIVER);
        // LEVEL 3: FLOW 5, 7, 3. u is cut 10, v 14; of size 4 u settles in 2, v of size 3 goes to the sea.
        mined(due, x, 0, 2, 3, 1000, 0, 0, 0, 0, -1);
        mined(due, x, 0, 2, 3, 0, 0, 0, 0, 0, -1);
        // one stone in 0: FLOW 2, 4 of u settle there
        mined(due, x, 0, 0, 3, 1, 1, 1, 0, 0, -1);
        mined(due, x, 0, 0, 3, 1000, 1, 1, 0, 0, -1);
        // in 1 by two stones: FLOW 1, v's 2 and u's 10: of 12
        mined(due, x, 0, 1, 3, 833, 2, 0, 2, 0, -1);
        mined(due, x, 0, 1, 3, 834, -1, -1, -1, -1, -1);
        mined(due, x, 1, 1, 3, 166, 2, 0, 2, 0, -1);
        // 166 of 1000 by 2 of 12; all of it when u's grains settle ahead
        mined(due, x, 1, 1, 3, 167, 3, 1, 2, 0, -1);
        mined(due, x, 1, 1, 3, 1000, 3, 1, 2, 0, -1);
        mined(due, x, 1, 0, 3, 1, -1, -1, -1, -1, -1);
        // stones are other ones in place of those that there are
        x.stone(0, true);
        x.stone(1, true);
        x.stone(2, true);
        mined(due, x, 0, 2, 3, 1000, 0, 0, 0, 0, -1);
        mined(due, x, 1, 1, 3, 167, 3, 1, 2, 0, -1);
        due.is("stones stay", x.has(8), 3);
        // a frozen YEAR leaves what lies there
        mined(due, x, 0, 2, 0, 1, -1, -1, -1, -1, -1);
        mined(due, x, 0, 2, 0, 0, 0, 0, 0, 0, -1);
        x = Due.river(RIVER + "ebb 50;");
        x.flood(3);
        due.is("share(2, 0)", x.share(2, 0), 1000);
        mined(due, x, 0, 2, 0, 1000, 0, 0, 0, 0, -1);
        mined(due, x, 1, 2, 0, 1, -1, -1, -1, -1, -1);
    }

    private static void mineOfLikeOnes(Due due) {
        // all the stones ahead count alike: grains fall in 3 by the number of stones in 0 .. 3 together
        String text = "river 4;owner a;owner b;colour c;bank u of a colour c at 0 holds 99 size 1;bank v of b colour c at 3 holds 10 size 1;"
            + "cut 99;";
        SiltShare x = Due.river(text + "settle (3-place)*stones*10+place/3*99;");
        // u falls in 3 less what settles ahead; b has 10 of 109 there by none: 91 of 1000
        mined(due, x, 1, 3, 1, 91, 0, 0, 0, 0, 0);
        // 10 of 99 or less: by 10 settled ahead; a stone in 2 does it with 10, in 1 with 20, in 0 with 30
        mined(due, x, 1, 3, 1, 92, 1, 0, 0, 1, 0);
        mined(due, x, 1, 3, 1, 101, 1, 0, 0, 1, 0);
        mined(due, x, 1, 3, 1, 102, 1, 0, 1, 0, 0);
        mined(due, x, 1, 3, 1, 113, 1, 1, 0, 0, 0);
        // 40 settled ahead: by two stones 30 + 10, 20 + 20, 60, 30 + 20: the fewest in 0 first
        mined(due, x, 1, 3, 1, 127, 2, 0, 2, 0, 0);
        mined(due, x, 1, 3, 1, 145, 2, 1, 1, 0, 0);
        mined(due, x, 1, 3, 1, 204, 2, 2, 0, 0, 0);
        // 70 settled ahead, 30 + 40 or 60 + 10; 71 and more; 90, 60 + 20 + 10; at most all
        mined(due, x, 1, 3, 1, 256, 3, 1, 2, 0, 0);
        mined(due, x, 1, 3, 1, 257, 3, 2, 1, 0, 0);
        mined(due, x, 1, 3, 1, 526, 4, 2, 1, 1, 0);
        mined(due, x, 1, 3, 1, 1000, 4, 2, 2, 0, 0);
        // a's 10 fall in 2 by two stones there, b's 4 ahead, one by each stone
        x = Due.river("river 3;owner a;owner b;colour c;bank u of a colour c at 2 holds 10 size 1;bank v of b colour c at 0 holds 4 size 1;"
            + "cut 99;settle (1-place/2)*stones+place/2*(stones/2)*99;");
        mined(due, x, 0, 2, 1, 714, 2, 0, 0, 2, -1);
        mined(due, x, 0, 2, 1, 715, 3, 0, 1, 2, -1);
        mined(due, x, 0, 2, 1, 909, 5, 1, 2, 2, -1);
        mined(due, x, 0, 2, 1, 910, 6, 2, 2, 2, -1);
        mined(due, x, 0, 2, 1, 1000, 6, 2, 2, 2, -1);
        // stones there and behind it
        x = Due.river(text + "settle stones*5;");
        mined(due, x, 1, 3, 1, 500, 1, 0, 0, 0, 1);
        mined(due, x, 1, 3, 1, 501, -1, -1, -1, -1, -1);
        mined(due, x, 0, 1, 1, 1, 1, 0, 1, 0, 0);
    }

    private static void mineWrong(Due due) {
        SiltShare x = Due.river(RIVER);
        due.is("mine of no OWNER", x.mine(2, 0, 3, 0, -1), -1);
        due.is("mine of no OWNER", x.mine(-1, 0, 3, 0, -1), -1);
        due.is("mine in no REACH", x.mine(0, 3, 3, 0, -1), -1);
        due.is("mine in no REACH", x.mine(0, -1, 3, 0, -1), -1);
        due.is("mine of no LEVEL", x.mine(0, 0, 10, 0, -1), -1);
        due.is("mine of no LEVEL", x.mine(0, 0, -1, 0, -1), -1);
        due.is("mine of no SHARE", x.mine(0, 0, 3, -1, -1), -1);
        due.is("mine of no SHARE", x.mine(0, 0, 3, 1001, -1), -1);
        due.is("mine for others", x.mine(0, 0, 3, 0, 3), -1);
        due.is("mine for others", x.mine(0, 0, 3, 0, -2), -1);
        due.is("mine for others", x.mine(0, 0, 3, 0, Integer.MAX_VALUE), -1);
        due.is("mine", x.mine(0, 0, 3, 0, 2), 0);
        due.is("keep of no BANK", x.keep(2, 3, 0, -1), -1);
        due.is("keep of no BANK", x.keep(-1, 3, 0, -1), -1);
        due.is("keep of no LEVEL", x.keep(0, 10, 0, -1), -1);
        due.is("keep of no LEVEL", x.keep(0, -1, 0, -1), -1);
        due.is("keep of no grains", x.keep(0, 3, -1, -1), -1);
        due.is("keep of 100", x.keep(0, 3, 100, -1), -1);
        due.is("keep for others", x.keep(0, 3, 0, 3), -1);
        due.is("keep for others", x.keep(0, 3, 0, -2), -1);
        due.is("keep", x.keep(0, 3, 0, 2), 0);
    }

    private static void kept(Due due, SiltShare x, int bank, int level, int grains, int... want) {
        String call = "keep(" + bank + ", " + level + ", " + grains + ", ";
        for (int k = -1; k < want.length - 1; k++) {
            due.is(call + k + ")", x.keep(bank, level, grains, k), want[k + 1]);
        }
    }

    private static void keep(Due due) {
        SiltShare x = Due.river(RIVER);
        // v by LEVEL 3: FLOW 7, 4, 1: it keeps 36, 42, 48
        kept(due, x, 1, 3, 36, 0, 0, 0, 0, -1);
        kept(due, x, 1, 3, 37, 1, 0, 1, 0, -1);
        kept(due, x, 1, 3, 42, 1, 0, 1, 0, -1);
        kept(due, x, 1, 3, 43, 2, 0, 2, 0, -1);
        kept(due, x, 1, 3, 48, 2, 0, 2, 0, -1);
        kept(due, x, 1, 3, 49, -1, -1, -1, -1, -1);
        x.stone(1, true);
        kept(due, x, 1, 3, 36, 0, 0, 0, 0, -1);
        kept(due, x, 0, 0, 60, 0, 0, 0, 0, -1);
        kept(due, x, 0, 0, 61, -1, -1, -1, -1, -1);
        x.flood(3);
        kept(due, x, 0, 0, 50, 0, 0, 0, 0, -1);
        kept(due, x, 0, 0, 51, -1, -1, -1, -1, -1);
        // a stone alone may be worse than none and two
        x = Due.river("river 3;owner a;colour c;bank u of a colour c at 2 holds 99 size 1;cut 50+(stones*2-3)*(stones-1)*30;");
        kept(due, x, 0, 5, 0, 0, 0, 0, 0, -1);
        kept(due, x, 0, 5, 49, 1, 0, 0, 1, -1);
        kept(due, x, 0, 0, 99, 0, 0, 0, 0, -1);
        due.is("keep of 100", x.keep(0, 0, 100, -1), -1);
    }

    private static void until(Due due) {
        // by each FLOOD 10 of each fall in 0, as long as b's BANK has them
        String text = "river 3;owner a;owner b;colour c;bank u of a colour c at 0 holds 99 size 9;bank v of b colour c at 0 holds 35 size 9;"
            + "cut 10;";
        SiltShare x = Due.river(text);
        due.is("until of like ones", x.until(0, 0, 1), 4);
        due.is("until(1, ..)", x.until(1, 0, 1), -1);
        // v has 10 10 10 5: 40 against 35 behind four FLOODS
        for (int i = 0; i < 3; i++) {
            x.flood(1);
        }
        due.is("until(0, 0, 1) three FLOODS later", x.until(0, 0, 1), 1);
        x.flood(1);
        due.is("until(0, 0, 1): he has it", x.until(0, 0, 1), 0);
        due.is("nothing has changed", x.has(7), 4);
        due.is("until(0, 1, 1)", x.until(0, 1, 1), -1);
        due.is("until of no LEVEL", x.until(0, 0, 10), -1);
        due.is("until of no LEVEL", x.until(0, 0, -1), -1);
        due.is("until of no OWNER", x.until(2, 0, 1), -1);
        due.is("until of no OWNER", x.until(-1, 0, 1), -1);
        due.is("until in no REACH", x.until(0, 3, 1), -1);
        due.is("until in no REACH", x.until(0, -1, 1), -1);
        untilTwenty(due);
        untilWithInterest(due);
    }

    /** Grains come from one YEAR on: 20 FLOODS are enough for YEAR 19, not for YEAR 20. */
    private static void untilTwenty(Due due) {
        String text = "river 3;owner a;colour c;bank u of a colour c at 0 holds 99 size 9;cut year-18;";
        SiltShare x = Due.river(text);
        due.is("until behind 20", x.until(0, 0, 1), 20);
        x = Due.river("river 3;owner a;colour c;bank u of a colour c at 0 holds 99 size 9;cut year-19;");
        due.is("until behind 21", x.until(0, 0, 1), -1);
        x.flood(0);
        due.is("until a YEAR later", x.until(0, 0, 1), 20);
        x = Due.river("river 3;owner a;colour c;bank u of a colour c at 0 holds 99 size 9;cut year-997;");
        for (int i = 0; i < 19; i++) {
            x.years(50);
        }
        x.years(40);
        due.is("until by the last YEAR", x.until(0, 0, 1), 9);
        x = Due.river("river 3;owner a;colour c;bank u of a colour c at 0 holds 99 size 9;cut year-998;");
        for (int i = 0; i < 19; i++) {
            x.years(50);
        }
        x.years(40);
        due.is("until behind the last YEAR", x.until(0, 0, 1), -1);
        x = Due.river("river 3;owner a;colour c;bank u of a colour c at 0 holds 99 size 9;cut 1;");
        for (int i = 0; i < 20; i++) {
            x.years(i < 19 ? 50 : 49);
        }
        due.is("in YEAR 999: he has it", x.until(0, 0, 1), x.lies(0, 0) > 0 ? 0 : -1);
    }

    /** By INTEREST a's heap falls, 9, 5, 3, 2, 1, and b's two single grains stay. */
    private static void untilWithInterest(Due due) {
        String text = "river 3;owner a;owner b;colour c;bank u of a colour c at 0 holds 18 size 9;bank v of b colour c at 0 holds 1 size 9;"
            + "bank w of b colour c at 0 holds 1 size 9;cut 18;ebb 50;";
        SiltShare x = Due.river(text);
        x.flood(1);
        due.is("lies(0, 0)", x.lies(0, 0), 9);
        due.is("lies(0, 1)", x.lies(0, 1), 1);
        due.is("until(0, 0, 1)", x.until(0, 0, 1), 0);
        due.is("until(1, 0, 1) by INTEREST", x.until(1, 0, 1), 4);
        due.is("until(1, 0, 0) by INTEREST of frozen YEARS", x.until(1, 0, 0), 4);
    }

    private static void found(Due due) {
        SiltShare x = Due.river("river 3;owner a;colour c;bank u of a colour c at 0 holds 60 size 4;cut level*level*5;settle 20;ebb 50;");
        due.is("levels()", x.levels(), -1);
        Due.tellNumbers(x, 5, 0, 0);
        due.is("find()", x.find(), true);
        due.is("levels()", x.levels(), 1 << 1);
        due.is("the tape goes", x.feed(0, 0, 0, 0, 0), 20);
        Due.tellNumbers(x, 20, 20, 20);
        due.is("find()", x.find(), true);
        due.is("levels() without INTEREST", x.levels(), (1 << 10) - (1 << 4));
        Due.tellNumbers(x, 0, 0, 0);
        due.is("find()", x.find(), true);
        due.is("levels()", x.levels(), 1);
        Due.tellNumbers(x, 20, 20, 276);
        due.is("find()", x.find(), true);
        due.is("levels() by the higher byte", x.levels(), 0);
        Due.tellNumbers(x, 20, 20, 20, 0);
        due.is("find() of too many", x.find(), false);
        due.is("the tape goes", x.end(1), false);
        Due.tellBytes(x, 0, 20, 0, 20, 0);
        due.is("find() of an odd number", x.find(), false);
        due.is("find() of none", x.find(), false);
        due.is("levels() stays", x.levels(), 0);
        // what lies there counts
        Due.tellNumbers(x, 20, 7, 0);
        x.find();
        x.flood(2);
        // 20 fell in 0, 10 stay
        Due.tellNumbers(x, 15, 0, 0);
        x.find();
        due.is("levels() with what lies", x.levels(), 1 << 1);
        x.undo();
        due.is("levels() after undo()", x.levels(), 0);
        SiltShare y = new SiltShare();
        Due.tellNumbers(y, 1, 2, 3);
        due.is("find() without a river", y.find(), false);
        due.is("find() of nothing without a river", y.find(), false);
        due.is("the tape goes", y.end(1), false);
        due.is("levels()", y.levels(), -1);
    }

    private static void forged(Due due) {
        SiltShare x = Due.river(RIVER);
        x.flood(3);
        // 10 of c lie in 2
        forgedBy(due, x, 2, 5, 12, 3);
        forgedBy(due, x, 2, 3, 7, 3);
        forgedBy(due, x, 2, 2, 12, 0);
        forgedBy(due, x, 0, 65535 + 65535, 65535, 65535);
        forgedBy(due, x, 2, 256 + 246, 256, 256);
        forgedBy(due, x, 2, 0, 10, 0);
        due.is("the tape goes", x.end(1), false);
        forgedBy(due, x, 3, -1, 12, 0);
        due.is("the tape goes", x.end(1), false);
        forgedBy(due, x, -1, -1, 12, 0);
        forgedBy(due, x, 2, -1, 12);
        forgedBy(due, x, 2, -1, 12, 0, 0);
        Due.tellBytes(x, 0, 1, 0);
        due.is("forged of three bytes", x.forged(2), -1);
        due.is("forged of none", x.forged(2), -1);
        SiltShare y = Due.river("river 3;");
        due.is("forged of no COLOURS", y.forged(2), 0);
        due.is("forged of no COLOURS in no REACH", y.forged(3), -1);
        Due.tellNumbers(y, 1);
        due.is("forged of one of no COLOURS", y.forged(2), -1);
    }

    private static void forgedBy(Due due, SiltShare x, int reach, int want, int... told) {
        Due.tellNumbers(x, told);
        due.is("forged(" + reach + ")", x.forged(reach), want);
    }
}
