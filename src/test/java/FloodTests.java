/** Term II, how SUMS are reckoned (term I), and promises 13 to 19: floods that would be, YEARS by a LEVEL and by the seed. */
public final class FloodTests {
    private static final String I = "Term I";
    private static final String II = "Term II";
    private static final int[] NO_INDEX = {-1, -2, Integer.MIN_VALUE, Integer.MAX_VALUE};
    private static final String BARE = "river 4;slope 3 at 0;owner a;colour c;bank b of a colour c at 0 holds 60 size 4;"
        + "bank d of a colour c at 2 holds 50 size 9;";

    public static void main(String[] args) {
        Due due = new Due("FloodTests");
        levels(due);
        flows(due);
        frozen(due);
        cutting(due);
        inOrder(due);
        settling(due);
        carrying(due);
        asked(due);
        fromTheLeft(due);
        quotients(due);
        heldWithin(due);
        interest(due);
        interestOfEach(due);
        wouldFlow(due);
        wouldCut(due);
        wouldSettle(due);
        wouldCarry(due);
        would(due);
        floods(due);
        noFloods(due);
        years(due);
        noYears(due);
        draws(due);
        yearsEnd(due);
        due.finish();
    }

    private static void levels(Due due) {
        due.holds(II, "A FLOOD has a LEVEL, 0 .. 9.");
        SiltShare x = Due.river(BARE + "cut level;settle level;");
        for (int level = 0; level <= 9; level++) {
            due.is("flow(1, " + level + ")", x.flow(1, level), level);
            due.is("would(" + level + ", 0)", x.would(level, 0), 2 * level);
        }
        due.is("flood(0)", x.flood(0), 0);
        due.is("flood(9)", x.flood(9), 18);
        for (int none : new int[] {-1, 10, Integer.MIN_VALUE, Integer.MAX_VALUE}) {
            due.is("flow(1, " + none + ")", x.flow(1, none), -1);
            due.is("cuts(0, " + none + ")", x.cuts(0, none), -1);
            due.is("settles(0, 0, " + none + ")", x.settles(0, 0, none), -1);
            due.is("carries(0, 0, " + none + ")", x.carries(0, 0, none), -1);
            due.is("would(" + none + ", 0)", x.would(none, 0), -1);
            due.is("flood(" + none + ")", x.flood(none), -1);
            due.is("mine(0, 0, " + none + ", 0, -1)", x.mine(0, 0, none, 0, -1), -1);
            due.is("keep(0, " + none + ", 0, -1)", x.keep(0, none, 0, -1), -1);
            due.is("until(0, 0, " + none + ")", x.until(0, 0, none), -1);
        }
        due.is("has(7)", x.has(7), 2);
    }

    private static void flows(Due due) {
        due.holds(II, "FLOW in a REACH: LEVEL and its slope, less 3 for each stone there; 0 at least.");
        SiltShare x = Due.river(BARE + "slope 9 at 3;");
        due.is("flow(0, 0)", x.flow(0, 0), 3);
        due.is("flow(0, 9)", x.flow(0, 9), 12);
        due.is("flow(1, 9)", x.flow(1, 9), 9);
        due.is("flow(1, 0)", x.flow(1, 0), 0);
        due.is("flow(3, 9)", x.flow(3, 9), 18);
        x.stone(0, true);
        due.is("flow(0, 0)", x.flow(0, 0), 0);
        due.is("flow(0, 1)", x.flow(0, 1), 1);
        due.is("flow(1, 1) beside the stone", x.flow(1, 1), 1);
        x.stone(0, true);
        due.is("flow(0, 1) below 0", x.flow(0, 1), 0);
        due.is("flow(0, 3)", x.flow(0, 3), 0);
        due.is("flow(0, 4)", x.flow(0, 4), 1);
        x.stone(0, true);
        due.is("flow(0, 6)", x.flow(0, 6), 0);
        due.is("flow(0, 7)", x.flow(0, 7), 1);
        due.is("flow(0, 0) by three", x.flow(0, 0), 0);
        due.is("flow(1, 4)", x.flow(1, 4), 4);
    }

    private static void frozen(Due due) {
        due.holds(II, "By LEVEL 0 (a frozen YEAR) nothing is cut or settles.");
        SiltShare x = Due.river(BARE + "cut 7;settle 3;");
        due.is("cuts(0, 0)", x.cuts(0, 0), 0);
        due.is("settles(0, 0, 0)", x.settles(0, 0, 0), 0);
        due.is("carries(0, 0, 0)", x.carries(0, 0, 0), 0);
        due.is("would(0, 0)", x.would(0, 0), 0);
        due.is("would(0, 1)", x.would(0, 1), 0);
        due.is("would(0, 2)", x.would(0, 2), 0);
        due.is("cuts(0, 1)", x.cuts(0, 1), 7);
        due.is("settles(0, 0, 1)", x.settles(0, 0, 1), 3);
        // a flood ahead of it leaves nothing to be carried
        due.is("flood(1)", x.flood(1), 7 + 6);
        due.is("flood(0)", x.flood(0), 0);
        due.is("has(7)", x.has(7), 2);
        due.is("has(9)", x.has(9), 96);
        due.is("has(10)", x.has(10), 13);
        due.is("has(11)", x.has(11), 1);
        x = Due.river(BARE + "cut 7;");
        due.is("settles(2, 1, 0) without settle", x.settles(2, 1, 0), 0);
    }

    private static void cutting(Due due) {
        due.holds(II, "it CUTS: the SUM of cut, 0 .. what the BANK holds (below is 0, above that; 0 without cut)");
        SiltShare x = Due.river(BARE);
        for (int level = 0; level < 10; level++) {
            due.is("cuts(0, " + level + ") without cut", x.cuts(0, level), 0);
        }
        String[] sums = {"0-9999", "0-1", "0", "1", "59", "60", "61", "9999", "9999*9999", "0-9999*9999"};
        int[] want = {0, 0, 0, 1, 59, 60, 60, 60, 60, 0};
        for (int i = 0; i < sums.length; i++) {
            x = Due.river(BARE + "cut " + sums[i] + ";");
            due.is("cut " + sums[i], x.cuts(0, 2), want[i]);
            due.is("cut " + sums[i], x.cuts(1, 2), Math.min(50, want[i]));
            x.flood(2);
            due.is("held behind cut " + sums[i], x.bank(0, 4), 60 - want[i]);
        }
        x = Due.river(BARE + "cut 9999;settle 0;");
        x.flood(2);
        due.is("cuts none of nothing", x.cuts(0, 2), 0);
        x = Due.river("river 3;owner a;colour c;bank b of a colour c at 0 holds 0 size 4;bank d of a colour c at 0 holds 99 size 4;cut 99;");
        due.is("cuts none of none held", x.cuts(0, 2), 0);
        due.is("cuts 99 of 99", x.cuts(1, 2), 99);
    }

    private static void inOrder(Due due) {
        due.holds(II, "Else it goes REACH by REACH from 0 on; in each: FIRST, BANK by BANK (those that stand there, as they are told), it CUTS:");
        // BANKS told against the way of the river, the last REACH first
        SiltShare x = Due.river("river 3;owner a;colour c;bank u of a colour c at 2 holds 60 size 4;bank v of a colour c at 0 holds 50 size 9;"
            + "bank w of a colour c at 2 holds 40 size 2;cut 12+size;settle 6;");
        int[] settles = {0, 6, 0, 0, 6, 0, 6, 6, 6};
        int[] carries = {0, 15, 0, 0, 9, 0, 10, 3, 8};
        for (int r = 0; r < 3; r++) {
            for (int b = 0; b < 3; b++) {
                due.is("settles(" + r + ", " + b + ", 1)", x.settles(r, b, 1), settles[3 * r + b]);
                due.is("carries(" + r + ", " + b + ", 1)", x.carries(r, b, 1), carries[3 * r + b]);
            }
        }
        due.is("flood(1)", x.flood(1), 30);
        due.is("bank(0, 6)", x.bank(0, 6), 10);
        due.is("bank(1, 6)", x.bank(1, 6), 3);
        due.is("bank(2, 6)", x.bank(2, 6), 8);
        due.holds(II, "these grains it CARRIES from then on. THEN, for each BANK (all, as they are told), of those of its grains that it CARRIES there SETTLE:");
        x = Due.river("river 3;owner a;colour c;bank u of a colour c at 0 holds 9 size 4;bank v of a colour c at 1 holds 8 size 9;"
            + "bank w of a colour c at 2 holds 7 size 2;cut 99;settle place/2*99;");
        // none settles ahead of the last REACH, and there of each BANK all: of those that stand elsewhere, too
        int[] held = {9, 8, 7};
        for (int r = 0; r < 3; r++) {
            for (int b = 0; b < 3; b++) {
                due.is("settles(" + r + ", " + b + ", 1)", x.settles(r, b, 1), r == 2 ? held[b] : 0);
                due.is("carries(" + r + ", " + b + ", 1)", x.carries(r, b, 1), r < 2 && b <= r ? held[b] : 0);
            }
        }
    }

    private static void settling(Due due) {
        due.holds(II, "of those of its grains that it CARRIES there SETTLE: the SUM of settle, 0 .. all of these;");
        String[] sums = {"0-9999*9999", "0-1", "0", "1", "29", "30", "31", "9999*9999", "held", "held-1", "held+1", "2*held"};
        int[] want = {0, 0, 0, 1, 29, 30, 30, 30, 30, 29, 30, 30};
        for (int i = 0; i < sums.length; i++) {
            SiltShare x = Due.river(BARE + "cut 30;settle " + sums[i] + ";");
            due.is("settle " + sums[i], x.settles(0, 0, 2), want[i]);
            due.is("carries behind settle " + sums[i], x.carries(0, 0, 2), 30 - want[i]);
        }
        SiltShare x = Due.river(BARE + "settle 9;");
        due.is("settles none of none carried", x.settles(0, 0, 2), 0);
        due.is("flood(2)", x.flood(2), 0);
        x = Due.river(BARE + "cut 9;settle 9;");
        due.is("settles(1, 0, 2) of none left", x.settles(1, 0, 2), 0);
        due.is("settles(1, 1, 2) ahead of its BANK", x.settles(1, 1, 2), 0);
        due.holds(II, "without settle all of these if their size is above FLOW, else none.");
        x = Due.river(BARE + "cut 7;");
        due.is("settles(0, 0, 1)", x.settles(0, 0, 1), 0);
        due.is("settles(1, 0, 1)", x.settles(1, 0, 1), 7);
        due.is("settles(1, 0, 3)", x.settles(1, 0, 3), 7);
        due.is("settles(1, 0, 4)", x.settles(1, 0, 4), 0);
        due.is("settles(1, 0, 5)", x.settles(1, 0, 5), 0);
        due.is("settles(2, 1, 8)", x.settles(2, 1, 8), 7);
        due.is("settles(2, 1, 9)", x.settles(2, 1, 9), 0);
        due.is("carries(3, 1, 9)", x.carries(3, 1, 9), 7);
        due.is("carries(3, 1, 8)", x.carries(3, 1, 8), 0);
        due.is("carries(2, 1, 9)", x.carries(2, 1, 9), 7);
        x.stone(0, true);
        due.is("settles(0, 0, 1) by a stone", x.settles(0, 0, 1), 7);
        due.is("settles(0, 0, 3) by a stone", x.settles(0, 0, 3), 7);
        due.is("settles(0, 0, 4) by a stone", x.settles(0, 0, 4), 0);
        x = Due.river("river 3;slope 1 at 0;slope 1 at 1;slope 1 at 2;owner a;colour c;bank b of a colour c at 1 holds 9 size 1;cut 7;");
        due.is("size 1 at FLOW 2", x.settles(1, 0, 1), 0);
        x.stone(2, true);
        due.is("size 1 at FLOW 0", x.settles(2, 0, 1), 7);
    }

    private static void carrying(Due due) {
        due.holds(II, "What it CARRIES behind the last REACH goes to the SEA.");
        SiltShare x = Due.river(BARE + "cut 20;settle 5;");
        due.is("carries(3, 0, 1)", x.carries(3, 0, 1), 0);
        due.is("carries(3, 1, 1)", x.carries(3, 1, 1), 10);
        x.flood(1);
        due.is("bank(0, 6)", x.bank(0, 6), 0);
        due.is("bank(1, 6)", x.bank(1, 6), 10);
        due.is("has(11)", x.has(11), 10);
        x = Due.river(BARE + "cut 21;settle 5;");
        x.flood(1);
        due.is("bank(0, 6)", x.bank(0, 6), 1);
        due.is("bank(1, 6)", x.bank(1, 6), 11);
        x = Due.river("river 8;owner a;colour c;bank b of a colour c at 7 holds 60 size 4;bank d of a colour c at 0 holds 70 size 4;cut 99;settle 0;");
        x.flood(1);
        due.is("all of the last REACH", x.bank(0, 6), 60);
        due.is("all of the first REACH", x.bank(1, 6), 70);
        due.is("has(10)", x.has(10), 0);
    }

    private static void asked(Due due) {
        due.holds(II, "(Asked are: LEVEL; FLOW there; size of the BANK's grains; held: what the BANK holds, in cut, how many of its grains are CARRIED, "
            + "in settle; stones there; the YEAR; the REACH's number.)");
        SiltShare x = Due.river(BARE + "cut level*10+flow;settle flow+size+held/2+stones*7+year*3+place;");
        // LEVEL 2: b cut 20 + 5 = 25; d cut 20 + 2 = 22
        due.is("cuts(0, 2)", x.cuts(0, 2), 25);
        due.is("cuts(1, 2)", x.cuts(1, 2), 22);
        due.is("settles(0, 0, 2)", x.settles(0, 0, 2), 5 + 4 + 12);
        due.is("settles(1, 0, 2)", x.settles(1, 0, 2), 4);
        due.is("settles(2, 1, 2)", x.settles(2, 1, 2), 22);
        x = Due.river(BARE + "cut held/3+year;settle held/4+stones*7+year*3+place;");
        due.is("cuts(0, 2)", x.cuts(0, 2), 20);
        due.is("settles(0, 0, 2)", x.settles(0, 0, 2), 5);
        due.is("settles(1, 0, 2)", x.settles(1, 0, 2), 4);
        due.is("settles(2, 0, 2)", x.settles(2, 0, 2), 4);
        due.is("settles(3, 0, 2)", x.settles(3, 0, 2), 4);
        due.is("carries(3, 0, 2)", x.carries(3, 0, 2), 3);
        x.stone(1, true);
        due.is("settles(1, 0, 2) by a stone", x.settles(1, 0, 2), 11);
        due.is("flood(0)", x.flood(0), 0);
        due.is("cuts(0, 2) in YEAR 1", x.cuts(0, 2), 21);
        due.is("settles(0, 0, 2) in YEAR 1", x.settles(0, 0, 2), 8);
        due.is("settles(1, 0, 2) in YEAR 1", x.settles(1, 0, 2), 13);
        due.is("settles(2, 0, 2) in YEAR 1", x.settles(2, 0, 2), 0);
        due.is("settles(2, 1, 2) in YEAR 1", x.settles(2, 1, 2), 4 + 3 + 2);
        // what each asks, one by one, in cut: LEVEL 5 in REACH 2 of slope 4 with a stone, in YEAR 1
        String[] words = {"level", "flow", "size", "held", "stones", "year", "place"};
        int[] inCut = {5, 6, 3, 70, 1, 1, 2};
        int[] inSettle = {5, 6, 3, 17, 1, 1, 2};
        for (int i = 0; i < words.length; i++) {
            String text = "river 3;slope 4 at 2;slope 1 at 1;owner a;colour c;bank b of a colour c at 2 holds 70 size 3;bank d of a colour c at 2 holds 8 size 1;";
            x = Due.river(text + "cut " + words[i] + ";");
            x.stone(2, true);
            x.flood(0);
            due.is("cut " + words[i], x.cuts(0, 5), inCut[i]);
            x = Due.river(text + "cut 17;settle " + words[i] + ";");
            x.stone(2, true);
            x.flood(0);
            due.is("settle " + words[i], x.settles(2, 0, 5), inSettle[i]);
        }
        due.is("held of the last one, settle held", Due.river(BARE + "cut 9;settle held;").settles(2, 1, 9), 9);
    }

    /** Each SUM as what a BANK of 99 is cut by, at LEVEL 3 in REACH 1 of slope 2. */
    private static void sum(Due due, String sum, int want) {
        SiltShare x = Due.river("river 3;slope 2 at 1;owner a;colour c;bank b of a colour c at 1 holds 99 size 6;cut " + sum + ";");
        due.is("cut " + sum, x.cuts(0, 3), want);
    }

    private static void fromTheLeft(Due due) {
        due.holds(I, "All from the left on;");
        sum(due, "0", 0);
        sum(due, "99", 99);
        sum(due, "0007", 7);
        sum(due, "10-3-2", 5);
        sum(due, "10-3+2", 9);
        sum(due, "10-(3-2)", 9);
        sum(due, "2+3*4", 14);
        sum(due, "(2+3)*4", 20);
        sum(due, "2*3+4*5", 26);
        sum(due, "99-2*3-4*5", 73);
        sum(due, "60/7*7", 56);
        sum(due, "60*7/7", 60);
        sum(due, "90/9/3", 3);
        sum(due, "90/(9/3)", 30);
        sum(due, "7/2*2", 6);
        sum(due, "min(40,30)", 30);
        sum(due, "max(40,30)", 40);
        sum(due, "min(30,40)", 30);
        sum(due, "max(30,40)", 40);
        sum(due, "min(30,30)+max(5,5)", 35);
        sum(due, "max(min(1,2),min(3,4))+1", 4);
        sum(due, "50+min(0-3,2)+max(0-3,2)", 49);
        sum(due, "level", 3);
        sum(due, "flow", 5);
        sum(due, "size", 6);
        sum(due, "held-9", 90);
        sum(due, "stones+10", 10);
        sum(due, "year+10", 10);
        sum(due, "place", 1);
    }

    private static void quotients(Due due) {
        due.holds(I, "/ gives the greatest whole number not above, by 0 it gives 0;");
        sum(due, "60/7", 8);
        sum(due, "63/7", 9);
        sum(due, "62/7", 8);
        sum(due, "6/7", 0);
        sum(due, "50+0/7", 50);
        sum(due, "50+(0-7)/2", 46);
        sum(due, "50+(0-8)/2", 46);
        sum(due, "50+(0-1)/9999", 49);
        sum(due, "50+7/(0-2)", 46);
        sum(due, "50+8/(0-2)", 46);
        sum(due, "50+1/(0-9999)", 49);
        sum(due, "50+(0-7)/(0-2)", 53);
        sum(due, "50+7/0", 50);
        sum(due, "50+0/0", 50);
        sum(due, "50+(0-7)/0", 50);
        sum(due, "50+7/(level-3)", 50);
        sum(due, "50+7/0*9", 50);
        sum(due, "9999*9999/0+50", 50);
    }

    private static void heldWithin(Due due) {
        due.holds(I, "each sum, difference, product above 10 to the 6 is that, below -10 to the 6 likewise.");
        // 9999 * 100 + 100 is a million
        sum(due, "9999*100+99-9999*100", 99);
        sum(due, "9999*100+100-9999*100-50", 50);
        sum(due, "9999*100+101-9999*100-50", 50);
        sum(due, "9999*100+9999-9999*100-50", 50);
        sum(due, "9999*100-(0-99)-9999*100", 99);
        sum(due, "9999*100-(0-100)-9999*100-50", 50);
        sum(due, "9999*100-(0-101)-9999*100-50", 50);
        sum(due, "1000*1000/9999", 100 - 1);
        sum(due, "1000*1000-9999*100-50", 50);
        sum(due, "1001*1000-9999*100-50", 50);
        sum(due, "9999*9999-9999*100-50", 50);
        sum(due, "9999*9999*9999-9999*100-50", 50);
        sum(due, "9999*9999*9999/(5*9999)", 20);
        sum(due, "0-9999*100-99+9999*100+99", 0);
        sum(due, "0-9999*100-99+9999*100+199", 99);
        sum(due, "0-9999*100-100+9999*100+150", 50);
        sum(due, "0-9999*100-101+9999*100+150", 50);
        sum(due, "0-9999*100+(0-101)+9999*100+150", 50);
        sum(due, "(0-1001)*1000+9999*100+150", 50);
        sum(due, "(0-1000)*1000+9999*100+150", 50);
        sum(due, "(0-9999)*9999+9999*100+150", 50);
        sum(due, "50+(0-9999)*9999/(5000*20)", 40);
        sum(due, "50+(0-9999)*9999*9999/(5000*20)", 40);
        sum(due, "50+(0-9999*9999-9999)/(5000*20)", 40);
        sum(due, "(0-9999)*9999*((0-9999)*9999)/(5000*10)", 20);
        sum(due, "(0-9999)*9999/(0-1)/(5000*4)", 50);
        sum(due, "9999*9999*(9999*9999)-9999*100-50", 50);
        sum(due, "(0-9999)*9999*(9999*9999)+9999*100+150", 50);
    }

    private static void interest(Due due) {
        due.holds(II, "THE SEA'S INTEREST, behind each YEAR's FLOOD: of the grains of each BANK in each REACH ebb of 100 (floor) go to the SEA.");
        SiltShare x = Due.river(BARE + "cut 20;settle 5;ebb 50;");
        due.is("flood(3) is without INTEREST", x.flood(3), 30);
        // 2 of each 5 go
        due.is("has(10)", x.has(10), 18);
        due.is("has(11)", x.has(11), 22);
        due.is("lies(0, 0)", x.lies(0, 0), 3);
        due.is("bank(0, 6)", x.bank(0, 6), 8);
        due.is("bank(1, 6)", x.bank(1, 6), 14);
        due.is("has(9) pays none", x.has(9), 70);
        due.is("flood(0) pays INTEREST, too", x.flood(0), 0);
        due.is("has(10)", x.has(10), 12);
        due.is("flood(0) until one of each is left", x.flood(0), 0);
        due.is("has(10)", x.has(10), 6);
        x.flood(0);
        due.is("of one none goes", x.has(10), 6);
        // without ebb, and by 0, none goes
        x = Due.river(BARE + "cut 50;settle 50;");
        x.flood(1);
        x.flood(0);
        due.is("without ebb", x.has(10), 100);
        x = Due.river(BARE + "cut 50;settle 50;ebb 0;");
        x.flood(1);
        due.is("by ebb 0", x.has(10), 100);
    }

    /** BANK by BANK and REACH by REACH: 99 and 99 of one OWNER and COLOUR pay none of 100 each. */
    private static void interestOfEach(Due due) {
        String text = "river 3;owner a;colour c;bank b of a colour c at 0 holds 99 size 4;bank d of a colour c at 0 holds 99 size 4;cut 99;";
        SiltShare x = Due.river(text + "settle 99;ebb 1;");
        x.flood(1);
        due.is("1 of 100 of 99 and 99", x.has(10), 198);
        x.rake(0, 0, 1, 1);
        x.flood(0);
        due.is("1 of 100 of 98 and 100", x.has(10), 197);
        due.is("it is the BANK's of 100", x.bank(1, 6), 1);
        x = Due.river(text + "settle 50;ebb 2;");
        x.flood(1);
        due.is("2 of 100 of 50 and 49, twice", x.has(10), 196);
        due.is("lies(0, 0)", x.lies(0, 0), 49);
        due.is("lies(1, 0)", x.lies(1, 0), 49);
        x = Due.river(text + "settle 33;ebb 3;");
        x.flood(1);
        due.is("3 of 100 of 33, three times, twice", x.has(10), 198);
        x = Due.river(BARE + "cut 50;settle 50;ebb 1;");
        x.flood(1);
        due.is("1 of 100 of 50", x.has(10), 100);
        x.flood(1);
        due.is("1 of 100 of 60", x.has(10), 110);
        x = Due.river(text + "settle 99;ebb 50;");
        x.flood(1);
        due.is("50 of 100 of 99", x.bank(0, 6), 49);
        // a YEAR by the seed pays, too: 99, 50, 25, 13
        x.seed(1);
        x.years(2);
        due.is("two YEARS by the seed", x.lies(0, 0), 13);
    }

    private static void noLevels(Due due) {
        SiltShare x = Due.river(BARE + "cut 7;settle 3;");
        for (int level : new int[] {-1, 10, Integer.MIN_VALUE, Integer.MAX_VALUE}) {
            due.is("flow(0, " + level + ")", x.flow(0, level), -1);
            due.is("cuts(0, " + level + ")", x.cuts(0, level), -1);
            due.is("settles(0, 0, " + level + ")", x.settles(0, 0, level), -1);
            due.is("carries(0, 0, " + level + ")", x.carries(0, 0, level), -1);
        }
    }

    private static void wouldFlow(Due due) {
        due.holds("Promise 13", "FLOW in a REACH by a LEVEL; NONE when there are none such.");
        SiltShare x = Due.river(BARE);
        due.is("flow(0, 0)", x.flow(0, 0), 3);
        due.is("flow(3, 9)", x.flow(3, 9), 9);
        due.is("flow(4, 0)", x.flow(4, 0), -1);
        for (int none : NO_INDEX) {
            due.is("flow(" + none + ", 0)", x.flow(none, 0), -1);
        }
        noLevels(due);
        due.is("flow(0, 0) without a river", new SiltShare().flow(0, 0), -1);
    }

    private static void wouldCut(Due due) {
        due.holds("Promise 14", "How many grains a FLOOD of a LEVEL would cut from a BANK; NONE when there are none such.");
        SiltShare x = Due.river(BARE + "cut level*6;");
        due.is("cuts(0, 9)", x.cuts(0, 9), 54);
        due.is("cuts(1, 9)", x.cuts(1, 9), 50);
        due.is("cuts(1, 1)", x.cuts(1, 1), 6);
        due.is("cuts(1, 0)", x.cuts(1, 0), 0);
        due.is("cuts(2, 3)", x.cuts(2, 3), -1);
        for (int none : NO_INDEX) {
            due.is("cuts(" + none + ", 3)", x.cuts(none, 3), -1);
        }
        due.is("nothing has changed", x.has(9), 110);
        noLevels(due);
        due.is("cuts(0, 1) of no BANK", Due.river("river 3;cut 1;").cuts(0, 1), -1);
    }

    private static void wouldSettle(Due due) {
        due.holds("Promise 15", "How many grains of a BANK would settle in a REACH by a FLOOD of a LEVEL; NONE when there are none such.");
        SiltShare x = Due.river(BARE + "cut level*6;settle 5;");
        due.is("settles(0, 0, 9)", x.settles(0, 0, 9), 5);
        due.is("settles(1, 0, 1)", x.settles(1, 0, 1), 1);
        due.is("settles(2, 0, 1)", x.settles(2, 0, 1), 0);
        due.is("settles(3, 1, 9)", x.settles(3, 1, 9), 5);
        due.is("settles(1, 1, 9)", x.settles(1, 1, 9), 0);
        due.is("settles(3, 1, 0)", x.settles(3, 1, 0), 0);
        due.is("settles(4, 0, 3)", x.settles(4, 0, 3), -1);
        due.is("settles(0, 2, 3)", x.settles(0, 2, 3), -1);
        for (int none : NO_INDEX) {
            due.is("settles(" + none + ", 0, 3)", x.settles(none, 0, 3), -1);
            due.is("settles(0, " + none + ", 3)", x.settles(0, none, 3), -1);
        }
        noLevels(due);
        due.is("nothing has changed", x.has(10), 0);
    }

    private static void wouldCarry(Due due) {
        due.holds("Promise 16", "How many grains of a BANK a FLOOD of a LEVEL would carry out of a REACH; NONE when there are none such.");
        SiltShare x = Due.river(BARE + "cut level*6;settle 5;");
        due.is("carries(0, 0, 9)", x.carries(0, 0, 9), 49);
        due.is("carries(3, 0, 9)", x.carries(3, 0, 9), 34);
        due.is("carries(0, 0, 1)", x.carries(0, 0, 1), 1);
        due.is("carries(1, 0, 1)", x.carries(1, 0, 1), 0);
        due.is("carries(1, 1, 9)", x.carries(1, 1, 9), 0);
        due.is("carries(2, 1, 9)", x.carries(2, 1, 9), 45);
        due.is("carries(2, 1, 0)", x.carries(2, 1, 0), 0);
        due.is("carries(4, 0, 3)", x.carries(4, 0, 3), -1);
        due.is("carries(0, 2, 3)", x.carries(0, 2, 3), -1);
        for (int none : NO_INDEX) {
            due.is("carries(" + none + ", 0, 3)", x.carries(none, 0, 3), -1);
            due.is("carries(0, " + none + ", 3)", x.carries(0, none, 3), -1);
        }
        noLevels(due);
        due.is("nothing has changed", x.has(11), 0);
    }

    private static void would(Due due) {
        due.holds("Promise 17", "Of a FLOOD of a LEVEL: grains it would cut (what 0), that would settle (1), that would go to the SEA (2), the REACH in which "
            + "most would settle (3; the first of like ones, NONE when none would).");
        SiltShare x = Due.river(BARE + "cut 20;settle 5;");
        due.is("would(3, 0)", x.would(3, 0), 40);
        due.is("would(3, 1)", x.would(3, 1), 30);
        due.is("would(3, 2)", x.would(3, 2), 10);
        due.is("would(3, 3)", x.would(3, 3), 2);
        due.is("would(9, 0)", x.would(9, 0), 40);
        due.is("would(0, 0)", x.would(0, 0), 0);
        due.is("would(0, 1)", x.would(0, 1), 0);
        due.is("would(0, 2)", x.would(0, 2), 0);
        due.is("would(0, 3) of none", x.would(0, 3), -1);
        due.is("would(3, 3) of none", Due.river(BARE + "cut 20;settle 0;").would(3, 3), -1);
        due.is("would(3, 3), all like ones", Due.river(BARE + "cut 9*(2-place)/2;settle 2;").would(3, 3), 0);
        due.is("would(3, 3), like ones behind", Due.river(BARE + "cut 5-place;settle 1;").would(3, 3), 2);
        due.is("would(3, 3), like ones ahead", Due.river(BARE + "cut 5*(1-place);settle 1;").would(3, 3), 0);
        due.is("would(3, 3), the last", Due.river(BARE + "cut 20;settle 1+place/3;").would(3, 3), 3);
        due.is("would(3, 3), a single grain", Due.river(BARE + "cut place/2;settle place/3;").would(3, 3), 3);
        x = Due.river("river 3;cut 5;");
        due.is("would(3, 0) without BANKS", x.would(3, 0), 0);
        due.is("would(3, 2) without BANKS", x.would(3, 2), 0);
        due.is("would(3, 3) without BANKS", x.would(3, 3), -1);
        due.holds("Term III", "What a FLOOD of a LEVEL would do, were it now (stones as they are, this YEAR, without INTEREST), is as in II.");
        x = Due.river(BARE + "cut 20+year+stones*3;settle 5;ebb 50;");
        due.is("would(3, 2) is without INTEREST", x.would(3, 2), 10);
        due.is("would(3, 1)", x.would(3, 1), 30);
        x.flood(0);
        x.stone(2, true);
        due.is("would(3, 0) by this YEAR and stone", x.would(3, 0), 21 + 24);
        due.is("nothing has changed", x.has(9), 110);
        due.is("nothing has changed", x.has(7), 1);
        due.holds("Promise 17", "NONE when there is none such, for others, or without a river.");
        x = Due.river(BARE + "cut 20;settle 5;");
        due.is("would(3, 4)", x.would(3, 4), -1);
        due.is("would(10, 0)", x.would(10, 0), -1);
        for (int none : NO_INDEX) {
            due.is("would(3, " + none + ")", x.would(3, none), -1);
            due.is("would(" + none + ", 0)", x.would(none, 0), -1);
        }
        x = new SiltShare();
        for (int what = 0; what < 4; what++) {
            due.is("would(1, " + what + ") without a river", x.would(1, what), -1);
        }
    }

    private static void floods(Due due) {
        due.holds("Promise 18", "A YEAR with a FLOOD of a LEVEL: grains that settled;");
        SiltShare x = Due.river(BARE + "cut 20+year;settle 5;");
        due.is("flood(3)", x.flood(3), 30);
        due.is("has(7)", x.has(7), 1);
        due.is("has(9)", x.has(9), 70);
        due.is("has(10)", x.has(10), 30);
        due.is("has(11)", x.has(11), 10);
        due.is("lies(3, 0)", x.lies(3, 0), 5);
        due.is("lies(3, 1)", x.lies(3, 1), 5);
        due.is("bank(0, 4)", x.bank(0, 4), 40);
        due.is("bank(0, 6)", x.bank(0, 6), 0);
        due.is("bank(1, 6)", x.bank(1, 6), 10);
        due.is("flood(3) in YEAR 1", x.flood(3), 30);
        due.is("bank(0, 4)", x.bank(0, 4), 19);
        due.is("bank(0, 6)", x.bank(0, 6), 1);
        due.is("flood(0)", x.flood(0), 0);
        due.is("flood(9) of the 19 and 9 that are left", x.flood(9), 28);
        due.is("has(7)", x.has(7), 4);
        due.is("flood(3) of no BANKS", Due.river("river 3;cut 9;").flood(3), 0);
        due.holds(II, "Grains keep their BANK: they are its OWNER's, of its COLOUR. LIE in a REACH what settled there.");
        x = Due.river("river 3;owner a;owner b;colour c;colour d;bank u of b colour c at 0 holds 9 size 9;bank v of a colour d at 1 holds 9 size 9;cut 9;settle 3;");
        x.flood(1);
        due.is("lies(0, 0)", x.lies(0, 0), 3);
        due.is("share(0, 1)", x.share(0, 1), 1000);
        due.is("tint(0, 0)", x.tint(0, 0), 3);
        due.is("lies(1, 1)", x.lies(1, 1), 3);
        due.is("share(1, 0)", x.share(1, 0), 500);
        due.is("tint(1, 1)", x.tint(1, 1), 3);
        // and lie there for good: no later FLOOD takes them
        x.flood(9);
        due.is("lies(0, 0)", x.lies(0, 0), 3);
        due.is("bank(0, 5)", x.bank(0, 5), 9);
    }

    private static void noFloods(Due due) {
        due.holds("Promise 18", "NONE, refused (2), when it can't be, or without a river.");
        SiltShare x = Due.river(BARE + "cut 20;settle 5;");
        int[] then = Due.imageOf(x);
        due.is("flood(10)", x.flood(10), -1);
        for (int none : NO_INDEX) {
            due.is("flood(" + none + ")", x.flood(none), -1);
        }
        due.is("status(2)", x.status(2), 5);
        due.row("the image", Due.imageOf(x), then);
        due.is("has(12)", x.has(12), 0);
        x = new SiltShare();
        due.is("flood(1) without a river", x.flood(1), -1);
        due.is("flood(0) without a river", x.flood(0), -1);
        due.is("status(2)", x.status(2), 2);
        due.is("has(7)", x.has(7), 0);
        due.is("has(12)", x.has(12), 0);
    }

    private static void years(Due due) {
        due.holds("Promise 19", "n YEARS (1 .. 50) by the seed, one ACT: grains that settled;");
        // YEARS by the seed are FLOODS by its draws: 1 gives 1103527590 and 2524885223 mod 2 to the 31
        SiltShare x = Due.river(BARE + "cut level;settle level/2;");
        SiltShare y = Due.river(BARE + "cut level;settle level/2;");
        long seed = 1;
        int together = 0;
        for (int i = 0; i < 50; i++) {
            seed = (1103515245L * seed + 12345) % (1L << 31);
            together += y.flood((int) (seed / 64 % 10));
        }
        due.is("years(50)", x.years(50), together);
        due.is("has(7)", x.has(7), 50);
        due.is("has(12)", x.has(12), 1);
        for (int what = 9; what < 12; what++) {
            due.is("has(" + what + ")", x.has(what), y.has(what));
        }
        due.is("years(1)", x.years(1) >= 0, true);
        due.is("has(7)", x.has(7), 51);
        due.is("has(12)", x.has(12), 2);
    }

    private static void noYears(Due due) {
        due.holds("Promise 19", "NONE, refused (2), when it can't be, or without a river.");
        SiltShare x = Due.river(BARE + "cut 9;settle level/2;ebb 9;");
        SiltShare y = Due.river(BARE + "cut 9;settle level/2;ebb 9;");
        int[] then = Due.imageOf(x);
        due.is("years(0)", x.years(0), -1);
        due.is("years(51)", x.years(51), -1);
        for (int none : NO_INDEX) {
            due.is("years(" + none + ")", x.years(none), -1);
        }
        due.is("status(2)", x.status(2), 6);
        due.row("the image", Due.imageOf(x), then);
        due.is("has(12)", x.has(12), 0);
        due.is("no LEVEL was drawn", x.years(5), y.years(5));
        due.row("behind them", Due.imageOf(x), Due.imageOf(y));
        x = new SiltShare();
        due.is("years(1) without a river", x.years(1), -1);
        due.is("status(2)", x.status(2), 1);
    }

    private static void draws(Due due) {
        due.holds(II, "YEARS by a seed: each with a DRAW of 10 as its LEVEL;");
        for (int level = 0; level < 10; level++) {
            int seed = 0;
            while (level(seed, 1) != level) {
                seed++;
            }
            SiltShare y = Due.river(BARE + "cut level;settle level;");
            y.seed(seed);
            due.is("years(1) by the DRAW " + level, y.years(1), 2 * level);
        }
        due.holds(II, "A DRAW of m: x (the seed) becomes (1103515245 x + 12345) mod 2 to the 31; floor(x / 64) mod m.");
        for (int first : new int[] {0, 1, 63, 64, 12345, 1 << 30, Integer.MAX_VALUE - 1, Integer.MAX_VALUE}) {
            SiltShare x = Due.river(BARE + "cut 2*level;settle 0;");
            x.seed(first);
            long seed = first;
            int goes = 0;
            for (int i = 0; i < 6; i++) {
                seed = (1103515245L * seed + 12345) % (1L << 31);
                int taken = x.would((int) (seed / 64 % 10), 0);
                goes += taken;
                x.years(1);
                due.is("grains cut by draw " + i + " of " + first, x.has(11), goes);
            }
        }
        SiltShare x = Due.river(BARE + "cut 10*level;settle 0;");
        x.seed(Integer.MAX_VALUE);
        x.years(1);
        due.is("has(9)", x.has(9), 110 - Due.river(BARE + "cut 10*level;settle 0;").would(level(Integer.MAX_VALUE, 1), 0));
        x.years(51);
        x.undo();
        due.is("has(9)", x.has(9), 110);
        x.years(1);
        due.is("the seed stays behind undo()", 110 - x.has(9), Due.river(BARE + "cut 10*level;settle 0;").would(level(Integer.MAX_VALUE, 2), 0));
    }

    /** The LEVEL of the n-th DRAW. */
    private static int level(long seed, int n) {
        for (int i = 0; i < n; i++) {
            seed = (1103515245L * seed + 12345) % (1L << 31);
        }
        return (int) (seed / 64 % 10);
    }

    private static void yearsEnd(Due due) {
        due.holds(II, "a YEAR goes by with a FLOOD of a LEVEL (999 YEARS at most, from 0 on);");
        SiltShare x = Due.river(BARE);
        due.is("has(7) at first", x.has(7), 0);
        for (int i = 0; i < 19; i++) {
            due.is("years(50)", x.years(50), 0);
        }
        due.is("has(7)", x.has(7), 950);
        due.is("years(50) to 1000", x.years(50), -1);
        due.is("years(48) to 998", x.years(48), 0);
        due.is("years(2) to 1000", x.years(2), -1);
        due.is("flood(1) in YEAR 998", x.flood(1), 0);
        due.is("has(7)", x.has(7), 999);
        due.is("flood(1) in YEAR 999", x.flood(1), -1);
        due.is("flood(0) in YEAR 999", x.flood(0), -1);
        due.is("years(1) in YEAR 999", x.years(1), -1);
        due.is("status(2)", x.status(2), 5);
        due.is("has(12)", x.has(12), 20);
        due.is("undo()", x.undo(), true);
        due.is("years(1) in YEAR 998", x.years(1), 0);
        due.is("has(7)", x.has(7), 999);
        due.is("undo()", x.undo(), true);
        due.is("undo()", x.undo(), true);
        due.is("has(7)", x.has(7), 950);
        due.is("years(49) to 999", x.years(49), 0);
        due.is("years(1) in YEAR 999", x.years(1), -1);
        due.is("flow(1, 5) in YEAR 999", x.flow(1, 5), 5);
        due.is("would(5, 0) in YEAR 999", x.would(5, 0), 0);
    }
}
