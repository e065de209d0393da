/** Promises 13 to 19: floods that would be, YEARS by a LEVEL and by the seed, SUMS of cut and settle. */
public final class FloodTests {
    private static final String BARE = "river 4;slope 3 at 0;owner a;colour c;bank b of a colour c at 0 holds 60 size 4;"
        + "bank d of a colour c at 2 holds 50 size 9;";

    public static void main(String[] args) {
        Due due = new Due("FloodTests");
        flows(due);
        withoutSums(due);
        sums(due);
        bounds(due);
        asked(due);
        would(due);
        years(due);
        yearsEnd(due);
        interest(due);
        due.finish();
    }

    private static void flows(Due due) {
        SiltShare x = Due.river(BARE);
        due.is("flow(0, 0)", x.flow(0, 0), 3);
        due.is("flow(0, 9)", x.flow(0, 9), 12);
        due.is("flow(1, 9)", x.flow(1, 9), 9);
        due.is("flow(3, 0)", x.flow(3, 0), 0);
        x.stone(0, true);
        due.is("flow(0, 1)", x.flow(0, 1), 1);
        x.stone(0, true);
        due.is("flow(0, 1) below 0", x.flow(0, 1), 0);
        due.is("flow(0, 4)", x.flow(0, 4), 1);
        due.is("flow(1, 4)", x.flow(1, 4), 4);
        due.is("flow(4, 0)", x.flow(4, 0), -1);
        due.is("flow(-1, 0)", x.flow(-1, 0), -1);
        due.is("flow(0, 10)", x.flow(0, 10), -1);
        due.is("flow(0, -1)", x.flow(0, -1), -1);
    }

    private static void withoutSums(Due due) {
        SiltShare x = Due.river(BARE);
        for (int level = 0; level < 10; level++) {
            due.is("cuts(0, " + level + ") without cut", x.cuts(0, level), 0);
        }
        // without settle all settles whose size is above FLOW
        x = Due.river(BARE + "cut 7;");
        due.is("settles(0, 0, 1)", x.settles(0, 0, 1), 0);
        due.is("settles(1, 0, 1)", x.settles(1, 0, 1), 7);
        due.is("settles(1, 0, 3)", x.settles(1, 0, 3), 7);
        due.is("settles(1, 0, 4)", x.settles(1, 0, 4), 0);
        due.is("settles(2, 1, 8)", x.settles(2, 1, 8), 7);
        due.is("settles(2, 1, 9)", x.settles(2, 1, 9), 0);
        due.is("carries(3, 1, 9)", x.carries(3, 1, 9), 7);
        due.is("carries(3, 1, 8)", x.carries(3, 1, 8), 0);
        due.is("carries(2, 1, 9)", x.carries(2, 1, 9), 7);
        due.is("settles(2, 1, 8)", x.settles(2, 1, 8), 7);
        x.stone(0, true);
        due.is("settles(0, 0, 1) by a stone", x.settles(0, 0, 1), 7);
        due.is("settles(0, 0, 4) by a stone", x.settles(0, 0, 4), 0);
        due.is("settles(0, 0, 0)", x.settles(0, 0, 0), 0);
        due.is("cuts(0, 0)", x.cuts(0, 0), 0);
    }

    /** Each SUM as what a BANK of 99 is cut by; 50 stands in for 0. */
    private static void sum(Due due, String sum, int want) {
        SiltShare x = Due.river("river 3;slope 2 at 1;owner a;colour c;bank b of a colour c at 1 holds 99 size 6;cut " + sum + ";");
        due.is("cut " + sum, x.cuts(0, 3), want);
    }

    private static void sums(Due due) {
        sum(due, "0", 0);
        sum(due, "99", 99);
        sum(due, "100", 99);
        sum(due, "1-2", 0);
        sum(due, "10-3-2", 5);
        sum(due, "10-(3-2)", 9);
        sum(due, "2+3*4", 14);
        sum(due, "(2+3)*4", 20);
        sum(due, "2*3+4*5", 26);
        sum(due, "60/7", 8);
        sum(due, "60/7*7", 56);
        sum(due, "60*7/7", 60);
        sum(due, "90/9/3", 3);
        sum(due, "50+(0-7)/2", 46);
        sum(due, "50+7/(0-2)", 46);
        sum(due, "50+(0-7)/(0-2)", 53);
        sum(due, "50+7/0", 50);
        sum(due, "50+7/(level-3)", 50);
        sum(due, "50+(0-8)/2", 46);
        sum(due, "min(40,30)", 30);
        sum(due, "max(40,30)", 40);
        sum(due, "max(min(1,2),min(3,4))+1", 4);
        sum(due, "level", 3);
        sum(due, "flow", 5);
        sum(due, "size", 6);
        sum(due, "held-9", 90);
        sum(due, "stones+10", 10);
        sum(due, "year+10", 10);
        sum(due, "place", 1);
        sum(due, "0007", 7);
        // products and sums are held within a million either way
        sum(due, "9999*9999/9999-50", 50);
        sum(due, "9999*100+9999-9999*100-50", 50);
        sum(due, "9999*100+100-9999*100-50", 50);
        sum(due, "9999*100+99-9999*100-50", 49);
        sum(due, "9999*9999*9999/(5*9999)", 20);
        sum(due, "50+(0-9999)*9999/(5000*20)", 40);
        sum(due, "50+(0-9999)*9999*9999/(5000*20)", 40);
        sum(due, "50+(0-9999*9999-9999)/(5000*20)", 40);
        sum(due, "(0-9999)*9999*((0-9999)*9999)/(5000*10)", 20);
        sum(due, "(0-9999)*9999/(0-1)/(5000*4)", 50);
    }

    private static void bounds(Due due) {
        SiltShare x = Due.river(BARE + "cut 30;settle 2*held;");
        due.is("settles no more than is carried", x.settles(0, 0, 2), 30);
        due.is("carries(0, 0, 2)", x.carries(0, 0, 2), 0);
        x = Due.river(BARE + "cut 9999;settle 0-1;");
        due.is("cuts no more than is held", x.cuts(0, 2), 60);
        due.is("settles no less than 0", x.settles(0, 0, 2), 0);
        due.is("carries(3, 0, 2)", x.carries(3, 0, 2), 60);
        due.is("carries(1, 1, 2)", x.carries(1, 1, 2), 0);
        due.is("carries(2, 1, 2)", x.carries(2, 1, 2), 50);
        x.flood(2);
        due.is("cuts none of nothing", x.cuts(0, 2), 0);
    }

    private static void asked(Due due) {
        SiltShare x = Due.river(BARE + "cut level*10+flow;settle flow+size+held/2+stones*7+year*3+place;");
        // LEVEL 2: b cut 20 + 5 = 25; d cut 20 + 2 = 22
        due.is("cuts(0, 2)", x.cuts(0, 2), 25);
        due.is("cuts(1, 2)", x.cuts(1, 2), 22);
        due.is("settles(0, 0, 2)", x.settles(0, 0, 2), 5 + 4 + 12);
        due.is("settles(1, 0, 2)", x.settles(1, 0, 2), 4);
        due.is("settles(2, 1, 2)", x.settles(2, 1, 2), 22);
        x = Due.river(BARE + "cut held/3+year;settle held/4+stones*7+year*3+place;");
        due.is("cuts(0, 2)", x.cuts(0, 2), 20);
        due.is("settles(0, 0, 2)", x.settles(0, 0, 2), 5);
        due.is("settles(1, 0, 2)", x.settles(1, 0, 2), 4);
        due.is("settles(2, 0, 2)", x.settles(2, 0, 2), 4);
        due.is("settles(3, 0, 2)", x.settles(3, 0, 2), 4);
        due.is("carries(3, 0, 2)", x.carries(3, 0, 2), 3);
        x.stone(1, true);
        due.is("settles(1, 0, 2) by a stone", x.settles(1, 0, 2), 11);
        due.is("flood(0)", x.flood(0), 0);
        due.is("cuts(0, 2) in YEAR 1", x.cuts(0, 2), 21);
        due.is("settles(0, 0, 2) in YEAR 1", x.settles(0, 0, 2), 8);
        due.is("settles(1, 0, 2) in YEAR 1", x.settles(1, 0, 2), 13);
        due.is("settles(2, 0, 2) in YEAR 1", x.settles(2, 0, 2), 0);
        due.is("settles(2, 1, 2) in YEAR 1", x.settles(2, 1, 2), 4 + 3 + 2);
    }

    private static void would(Due due) {
        SiltShare x = Due.river(BARE + "cut 20;settle 5;");
        due.is("would(3, 0)", x.would(3, 0), 40);
        due.is("would(3, 1)", x.would(3, 1), 30);
        due.is("would(3, 2)", x.would(3, 2), 10);
        due.is("would(3, 3)", x.would(3, 3), 2);
        due.is("would(3, 4)", x.would(3, 4), -1);
        due.is("would(3, -1)", x.would(3, -1), -1);
        due.is("would(-1, 0)", x.would(-1, 0), -1);
        due.is("would(10, 0)", x.would(10, 0), -1);
        due.is("would(0, 0)", x.would(0, 0), 0);
        due.is("would(0, 1)", x.would(0, 1), 0);
        due.is("would(0, 2)", x.would(0, 2), 0);
        due.is("would(0, 3)", x.would(0, 3), -1);
        x = Due.river(BARE + "cut 5-place;settle 1;");
        due.is("would(3, 3), the first of like ones", x.would(3, 3), 2);
        x = Due.river(BARE + "cut 5*(1-place);settle 1;");
        due.is("would(3, 3), the first of like ones", x.would(3, 3), 0);
        due.is("cuts(2, 3)", x.cuts(2, 3), -1);
        due.is("cuts(-1, 3)", x.cuts(-1, 3), -1);
        due.is("cuts(0, 10)", x.cuts(0, 10), -1);
        due.is("cuts(0, -1)", x.cuts(0, -1), -1);
        due.is("settles(4, 0, 3)", x.settles(4, 0, 3), -1);
        due.is("settles(0, 2, 3)", x.settles(0, 2, 3), -1);
        due.is("settles(0, 0, 10)", x.settles(0, 0, 10), -1);
        due.is("settles(-1, 0, 3)", x.settles(-1, 0, 3), -1);
        due.is("carries(4, 0, 3)", x.carries(4, 0, 3), -1);
        due.is("carries(0, 2, 3)", x.carries(0, 2, 3), -1);
        due.is("carries(0, 0, -1)", x.carries(0, 0, -1), -1);
        due.is("carries(0, -1, 3)", x.carries(0, -1, 3), -1);
        due.is("nothing has changed", x.has(9), 110);
        // a river without BANKS
        x = Due.river("river 3;cut 5;");
        due.is("would(3, 0)", x.would(3, 0), 0);
        due.is("would(3, 3)", x.would(3, 3), -1);
        due.is("flood(3)", x.flood(3), 0);
    }

    private static void years(Due due) {
        SiltShare x = Due.river(BARE + "cut 20+year;settle 5;");
        due.is("flood(3)", x.flood(3), 30);
        due.is("has(7)", x.has(7), 1);
        due.is("has(9)", x.has(9), 70);
        due.is("has(10)", x.has(10), 30);
        due.is("has(11)", x.has(11), 10);
        due.is("lies(3, 0)", x.lies(3, 0), 5);
        due.is("lies(3, 1)", x.lies(3, 1), 5);
        due.is("bank(0, 4)", x.bank(0, 4), 40);
        due.is("bank(0, 6)", x.bank(0, 6), 0);
        due.is("bank(1, 6)", x.bank(1, 6), 10);
        due.is("flood(3) in YEAR 1", x.flood(3), 30);
        due.is("bank(0, 4)", x.bank(0, 4), 19);
        due.is("bank(0, 6)", x.bank(0, 6), 1);
        due.is("flood(0)", x.flood(0), 0);
        due.is("has(7)", x.has(7), 3);
        due.is("flood(10)", x.flood(10), -1);
        due.is("flood(-1)", x.flood(-1), -1);
        due.is("years(0)", x.years(0), -1);
        due.is("years(51)", x.years(51), -1);
        due.is("years(-1)", x.years(-1), -1);
        due.is("years(MAX)", x.years(Integer.MAX_VALUE), -1);
        due.is("status(2)", x.status(2), 6);
        due.is("has(7)", x.has(7), 3);
        // YEARS by the seed are FLOODS by its draws: 1 gives 1103527590 and 2524885223 mod 2 to the 31
        SiltShare y = Due.river(BARE + "cut level;settle level/2;");
        SiltShare z = Due.river(BARE + "cut level;settle level/2;");
        long seed = 1;
        int together = 0;
        for (int i = 0; i < 50; i++) {
            seed = (1103515245L * seed + 12345) % (1L << 31);
            together += z.flood((int) (seed / 64 % 10));
        }
        due.is("years(50)", y.years(50), together);
        due.is("has(7)", y.has(7), 50);
        due.is("has(12)", y.has(12), 1);
        for (int what = 9; what < 12; what++) {
            due.is("has(" + what + ")", y.has(what), z.has(what));
        }
        drawnAgain(due);
    }

    private static void drawnAgain(Due due) {
        SiltShare x = Due.river(BARE + "cut 10*level+year-year;settle 0;");
        due.is("seed(MAX)", x.seed(Integer.MAX_VALUE), true);
        long seed = (1103515245L * Integer.MAX_VALUE + 12345) % (1L << 31);
        int level = (int) (seed / 64 % 10);
        int taken = x.would(level, 0);
        x.years(1);
        due.is("grains cut by the first draw", 110 - x.has(9), taken);
        due.is("years refused draws nothing", x.years(51), -1);
        seed = (1103515245L * seed + 12345) % (1L << 31);
        level = (int) (seed / 64 % 10);
        int before = x.has(9);
        taken = x.would(level, 0);
        x.years(1);
        due.is("grains cut by the second draw", before - x.has(9), taken);
        due.is("undo()", x.undo(), true);
        due.is("undone", x.has(9), before);
        seed = (1103515245L * seed + 12345) % (1L << 31);
        level = (int) (seed / 64 % 10);
        taken = x.would(level, 0);
        x.years(1);
        due.is("the seed stays behind undo()", before - x.has(9), taken);
    }

    private static void yearsEnd(Due due) {
        SiltShare x = Due.river(BARE);
        for (int i = 0; i < 19; i++) {
            due.is("years(50)", x.years(50), 0);
        }
        due.is("has(7)", x.has(7), 950);
        due.is("years(50) to 1000", x.years(50), -1);
        due.is("years(49) to 999", x.years(49), 0);
        due.is("has(7)", x.has(7), 999);
        due.is("flood(1) in YEAR 999", x.flood(1), -1);
        due.is("years(1) in YEAR 999", x.years(1), -1);
        due.is("status(2)", x.status(2), 3);
        due.is("has(12)", x.has(12), 20);
        due.is("undo()", x.undo(), true);
        due.is("has(7)", x.has(7), 950);
    }

    private static void interest(Due due) {
        SiltShare x = Due.river(BARE + "cut 20;settle 5;ebb 50;");
        due.is("would(3, 2) is without INTEREST", x.would(3, 2), 10);
        due.is("flood(3) is without INTEREST", x.flood(3), 30);
        // 2 of each 5 go
        due.is("has(10)", x.has(10), 18);
        due.is("has(11)", x.has(11), 22);
        due.is("lies(0, 0)", x.lies(0, 0), 3);
        due.is("bank(0, 6)", x.bank(0, 6), 8);
        due.is("bank(1, 6)", x.bank(1, 6), 14);
        due.is("has(9) pays none", x.has(9), 70);
        due.is("flood(0) pays INTEREST, too", x.flood(0), 0);
        due.is("has(10)", x.has(10), 12);
        x = Due.river(BARE + "cut 50;settle 50;ebb 1;");
        x.flood(1);
        due.is("1 of 100 of 50", x.has(10), 100);
        x.flood(1);
        due.is("1 of 100 of 60", x.has(10), 110);
        x = Due.river(BARE + "cut 50;settle 50;ebb 2;");
        x.flood(1);
        due.is("2 of 100 of 50", x.has(10), 98);
    }
}
