/** Promises 1 to 5: a new object, the tape, the text of a RIVER and its FAULTS. */
public final class TextTests {
    private static final String START = "river 3;owner a;colour c;";

    public static void main(String[] args) {
        Due due = new Due("TextTests");
        newObject(due);
        feedAndEnd(due);
        rivers(due);
        faultsOfBytes(due);
        faultsOfNumbers(due);
        faultsOfNames(due);
        faultsOfDepth(due);
        faultsOfMany(due);
        fullTapes(due);
        whatStays(due);
        due.finish();
    }

    private static void newObject(Due due) {
        SiltShare x = new SiltShare();
        int[] first = {0, 0, 0, 0, 10, 20, 0, 0, 0, 0, 0, 0, 0, -1};
        for (int what = 0; what < first.length; what++) {
            due.is("new has(" + what + ")", x.has(what), first[what]);
        }
        due.is("new fault(0)", x.fault(0), 0);
        due.is("new fault(1)", x.fault(1), -1);
        due.is("new levels()", x.levels(), -1);
        due.is("new reach(0, 0)", x.reach(0, 0), -1);
        due.is("new bank(0, 0)", x.bank(0, 0), -1);
        due.is("new octet(0)", x.octet(0), -1);
        for (int what = 0; what < 6; what++) {
            due.is("new status(" + what + ")", x.status(what), 0);
        }
    }

    private static void feedAndEnd(Due due) {
        SiltShare x = new SiltShare();
        for (int i = 1; i <= 80; i++) {
            due.is("feed no. " + i, x.feed(0, 0, 0, 0, 0), 20 * i);
        }
        due.is("feed beyond 1600", x.feed(0, 0, 0, 0, 0), -1);
        due.is("status(0)", x.status(0), 1);
        due.is("end(1601)", x.end(1601), false);
        due.is("end(-1)", x.end(-1), false);
        due.is("status(0)", x.status(0), 3);
        due.is("end(1600)", x.end(1600), true);
        due.is("end(1581)", x.end(1581), true);
        due.is("feed of 1581", x.feed(0, 0, 0, 0, 0), -1);
        due.is("end(1580)", x.end(1580), true);
        due.is("feed of 1580", x.feed(0, 0, 0, 0, 0), 1600);
        due.is("end(3)", x.end(3), true);
        due.is("feed of 3", x.feed(0, 0, 0, 0, 0), 23);
        due.is("end(24)", x.end(24), false);
        due.is("end(Integer.MIN_VALUE)", x.end(Integer.MIN_VALUE), false);
        due.is("end(0)", x.end(0), true);
        due.is("end(0) again", x.end(0), true);
        due.is("status(0)", x.status(0), 6);
        // "rive" "r 3;" and what end() cut off does not come back
        due.is("feed", x.feed(0x72697665, 0x7220333b, 0x7220333b, 0, 0), 20);
        due.is("end(8)", x.end(8), true);
        due.is("river()", x.river(), 1);
        due.is("end(1) of a tape that went", x.end(1), false);
    }

    private static void rivers(Due due) {
        due.isRiver("river 3;", 1);
        due.isRiver(" \n river\n8 ; ", 1);
        due.isRiver("river 0003;", 1);
        due.isRiver("river 3;slope 9 at 2;slope 0 at 0;", 3);
        due.isRiver("river 3;owner rivers;colour atx;owner z;owner abcdef;", 5);
        due.isRiver("river 3;owner lies;colour sea;owner taken;colour first;owner and;owner or;owner not;", 8);
        due.isRiver(START + "bank b of a colour c at 2 holds 99 size 9;bank d of a colour c at 0 holds 0 size 1;", 5);
        due.isRiver("river 3;rises 1;rises 99;joins 1;joins 99;ebb 0;ebb 50;", 7);
        due.isRiver("river 3;cut 1;settle 2;", 3);
        due.isRiver("river 3;cut 9999*(level+flow-size/held)*stones+year-place;", 2);
        due.isRiver("river 3;settle min(1,max(level,2))+max ( 3 , min ( 4 , 5 ) ) ;", 2);
        due.isRiver("river 3;cut((((((1))))));settle(1)+((((((1))))))+(2);", 3);
        due.isRiver("river 3;" + Due.times("ebb 1;", 69), 70);
        due.isRiver("river 3;" + Due.times("ebb 1;", 69) + "  \n", 70);
        SiltShare x = new SiltShare();
        Due.tell(x, "river 5;slope 1 at 4;slope 7 at 4;slope 2 at 3;ebb 5;ebb 7;rises 3;rises 4;joins 5;joins 6;");
        due.is("river()", x.river(), 10);
        due.is("has(0)", x.has(0), 5);
        due.is("has(4)", x.has(4), 4);
        due.is("has(5)", x.has(5), 6);
        due.is("has(6)", x.has(6), 7);
        due.is("reach(4, 0)", x.reach(4, 0), 7);
        due.is("reach(3, 0)", x.reach(3, 0), 2);
        due.is("reach(0, 0)", x.reach(0, 0), 0);
    }

    private static void faultsOfBytes(Due due) {
        due.faultOfRiver("", 1, 0);
        due.faultOfRiver("   \n", 1, 4);
        due.faultOfRiver("riv", 1, 0);
        due.faultOfRiver(" rivers 3;", 1, 1);
        due.faultOfRiver("river", 1, 5);
        due.faultOfRiver("river  ", 1, 7);
        due.faultOfRiver("river3;", 1, 5);
        due.faultOfRiver("river x;", 1, 6);
        due.faultOfRiver("river 3", 1, 7);
        due.faultOfRiver("river 3 ", 1, 8);
        due.faultOfRiver("river 3x", 1, 7);
        due.faultOfRiver("river 3 4;", 1, 8);
        due.faultOfRiver("river 3;;", 1, 8);
        due.faultOfRiver("river 3; 5;", 1, 9);
        due.faultOfRiver("river 3;\t", 1, 8);
        due.faultOfRiver("river 3;River 3;", 1, 8);
        due.faultOfRiver("river 3; river 3;", 1, 9);
        due.faultOfRiver("owner a;", 1, 0);
        due.faultOfRiver("river 3;level 3;", 1, 8);
        due.faultOfRiver("river 00003;", 1, 10);
        due.faultOfRiver("river 3;cut 12345;", 1, 16);
        due.faultOfRiver("river 3;slope 1at 0;", 1, 15);
        due.faultOfRiver("river 3;slope 1 at0;", 1, 18);
        due.faultOfRiver("river 3;slope 1 att 0;", 1, 16);
        due.faultOfRiver("river 3;slope 1 of 0;", 1, 16);
        due.faultOfRiver("river 3;owner;", 1, 13);
        due.faultOfRiver("river 3;owner 5;", 1, 14);
        due.faultOfRiver("river 3;owner A;", 1, 14);
        due.faultOfRiver("river 3;owner a1;", 1, 15);
        due.faultOfRiver("river 3;owner a b;", 1, 16);
        due.faultOfRiver("river 3;owner river;", 1, 14);
        due.faultOfRiver("river 3;owner abcdefgh;", 1, 20);
        due.faultOfRiver("river 3;owner settles;", 1, 20);
        String[] own = {"river", "slope", "at", "owner", "colour", "bank", "of", "holds", "size", "cut", "settle", "rises",
            "joins", "ebb", "level", "flow", "held", "stones", "year", "place", "min", "max"};
        for (String word : own) {
            due.faultOfRiver("river 3;colour " + word + ";", 1, 15);
        }
        due.faultOfRiver(START + "bank b off a", 1, 32);
        due.faultOfRiver(START + "bank b of of", 1, 35);
        due.faultOfRiver(START + "bank b of a c", 1, 37);
        due.faultOfRiver(START + "bank b of a colour c holds", 1, 46);
        due.faultOfRiver(START + "bank b of a colour c at 0 size", 1, 51);
        due.faultOfRiver(START + "bank b of a colour c at 0 holds 1 holds", 1, 59);
        due.faultOfRiver(START + "bank b of a colour c at 0 holds 1 size", 1, 63);
        due.faultOfRiver("river 3;cut;", 1, 11);
        due.faultOfRiver("river 3;cut 1", 1, 13);
        due.faultOfRiver("river 3;cut -1;", 1, 12);
        due.faultOfRiver("river 3;cut 1+;", 1, 14);
        due.faultOfRiver("river 3;cut 1+*2;", 1, 14);
        due.faultOfRiver("river 3;cut 1 2;", 1, 14);
        due.faultOfRiver("river 3;cut (1;", 1, 14);
        due.faultOfRiver("river 3;cut 1);", 1, 13);
        due.faultOfRiver("river 3;cut (1)2;", 1, 15);
        due.faultOfRiver("river 3;cut min 1;", 1, 16);
        due.faultOfRiver("river 3;cut min(1);", 1, 17);
        due.faultOfRiver("river 3;cut min(1,2,3);", 1, 19);
        due.faultOfRiver("river 3;cut max(1,2;", 1, 19);
        due.faultOfRiver("river 3;cut levels;", 1, 12);
        due.faultOfRiver("river 3;cut lies 1;", 1, 12);
        due.faultOfRiver("river 3;cut taken;", 1, 12);
        due.faultOfRiver("river 3;cut 2level;", 1, 13);
        due.faultOfRiver("river 3;cut level2;", 1, 17);
        due.faultOfRiver("river 3;cut3;", 1, 11);
        due.faultOfRiver("river 3;cut 1;" + (char) 0xe9, 1, 14);
    }

    private static void faultsOfNumbers(Due due) {
        due.faultOfRiver("river 2;", 2, 6);
        due.faultOfRiver("river  9x", 2, 7);
        due.faultOfRiver("river 9999", 2, 6);
        due.faultOfRiver("river 3;slope 10 at 0;", 2, 14);
        due.faultOfRiver("river 3;slope 1 at 3;", 2, 19);
        due.faultOfRiver("river 4;slope 1 at 4;", 2, 19);
        due.faultOfRiver("river 3;rises 0;", 2, 14);
        due.faultOfRiver("river 3;rises 100;", 2, 14);
        due.faultOfRiver("river 3;joins 0;", 2, 14);
        due.faultOfRiver("river 3;joins 100;", 2, 14);
        due.faultOfRiver("river 3;ebb 51;", 2, 12);
        due.faultOfRiver(START + "bank b of a colour c at 3 holds", 2, 49);
        due.faultOfRiver(START + "bank b of a colour c at 0 holds 100;", 2, 57);
        due.faultOfRiver(START + "bank b of a colour c at 0 holds 99 size 0;", 2, 65);
        due.faultOfRiver(START + "bank b of a colour c at 0 holds 99 size 10;", 2, 65);
    }

    private static void faultsOfNames(Due due) {
        due.faultOfRiver("river 3;owner a;colour a;", 3, 23);
        due.faultOfRiver("river 3;owner ab;owner a;owner ab;", 3, 31);
        due.faultOfRiver(START + "bank a of", 3, 30);
        due.faultOfRiver(START + "bank c of", 3, 30);
        due.faultOfRiver(START + "bank b of b", 3, 35);
        due.faultOfRiver(START + "bank b of c", 3, 35);
        due.faultOfRiver(START + "bank b of a colour a", 3, 44);
        due.faultOfRiver(START + "bank b of a colour b", 3, 44);
        due.faultOfRiver(START + "bank b of aa", 3, 35);
        due.faultOfRiver(START + "bank b of a colour c at 0 holds 1 size 1;owner b;", 3, 72);
    }

    private static void faultsOfDepth(Due due) {
        due.faultOfRiver("river 3;cut (((((((1)))))));", 4, 18);
        due.faultOfRiver("river 3;cut ((((((1))))))+((((((min(", 4, 35);
        due.faultOfRiver("river 3;cut min(min(min(min(min(min(max(", 4, 39);
        due.faultOfRiver("river 3;cut ((((((1(", 1, 19);
        due.faultOfRiver("river 3;cut (((((( (", 4, 19);
        due.faultOfRiver("river 3;cut 1;settle (((((((1", 4, 27);
    }

    private static void faultsOfMany(Due due) {
        due.faultOfRiver("river 3; cut 1; cut", 5, 16);
        due.faultOfRiver("river 3;settle 1;settle x", 5, 17);
        due.faultOfRiver("river 3;owner a;owner b;owner d;owner e;owner f;owner", 5, 48);
        due.faultOfRiver("river 3;colour a;colour b;colour d;colour e;colour f;colour a", 5, 53);
        StringBuilder banks = new StringBuilder(START);
        for (char name = 'k'; name < 'k' + 10; name++) {
            banks.append("bank ").append(name).append(" of a colour c at 1 holds 9 size 3;");
        }
        due.isRiver(banks.toString(), 13);
        due.faultOfRiver(banks + " bank z", 5, banks.length() + 1);
        String full = "river 3;" + Due.times("ebb 1;", 69);
        due.faultOfRiver(full + " ebb 1;", 5, full.length() + 1);
        due.faultOfRiver(full + "x", 5, full.length());
        due.faultOfRiver(full + "\t", 5, full.length());
        due.faultOfRiver(full + "river", 5, full.length());
    }

    private static void fullTapes(Due due) {
        String sum = "river 3;cut 1" + Due.times("+1", 793);
        due.isRiver(sum + ";", 2);
        due.faultOfRiver(sum + "+", 1, 1600);
        due.faultOfRiver(sum + "1", 1, 1600);
        due.faultOfRiver(sum + " ", 1, 1600);
        due.faultOfRiver(sum + "x", 1, 1599);
        due.isRiver("river 3;" + Due.times(" ", 1592), 1);
        due.faultOfRiver(Due.times(" ", 1600), 1, 1600);
        due.faultOfRiver("river 3;" + Due.times(" ", 1585) + "colour " , 1, 1600);
        due.faultOfRiver("river 3;owner" + Due.times(" ", 1586) + "a", 1, 1600);
        due.faultOfRiver("river 3;owner" + Due.times(" ", 1586) + "1", 1, 1599);
    }

    private static void whatStays(Due due) {
        SiltShare x = Due.river("river 4;owner a;colour c;bank b of a colour c at 0 holds 50 size 9;cut 20;settle 20;rises 7;");
        due.is("flood(1)", x.flood(1), 20);
        due.is("stone(1, true)", x.stone(1, true), true);
        due.is("seed(77)", x.seed(77), true);
        Due.tellNumbers(x, 1, 2, 3, 4);
        due.is("find()", x.find(), true);
        Due.tell(x, "river 5;owner q;oops");
        due.is("river() with a FAULT", x.river(), -1);
        due.is("fault(0)", x.fault(0), 1);
        due.is("fault(1)", x.fault(1), 16);
        due.is("fault(2)", x.fault(2), -1);
        due.is("fault(-1)", x.fault(-1), -1);
        due.is("has(0)", x.has(0), 4);
        due.is("has(1)", x.has(1), 1);
        due.is("has(4)", x.has(4), 7);
        due.is("has(7)", x.has(7), 1);
        due.is("has(8)", x.has(8), 1);
        due.is("has(9)", x.has(9), 30);
        due.is("has(10)", x.has(10), 20);
        due.is("has(12)", x.has(12), 2);
        due.is("levels()", x.levels(), 0);
        due.is("status(1)", x.status(1), 1);
        due.is("end(1)", x.end(1), false);
        Due.tell(x, "river 3;");
        due.is("river() without one", x.river(), 1);
        int[] want = {3, 0, 0, 0, 10, 20, 0, 0, 0, 0, 0, 0, 0};
        for (int what = 0; what < want.length; what++) {
            due.is("has(" + what + ")", x.has(what), want[what]);
        }
        due.is("fault(0)", x.fault(0), 0);
        due.is("fault(1)", x.fault(1), -1);
        due.is("levels()", x.levels(), -1);
        due.is("undo()", x.undo(), false);
        due.is("reach(0, 0)", x.reach(0, 0), 0);
        seedStays(due);
    }

    /** The same YEARS with and without a river() behind seed(). */
    private static void seedStays(Due due) {
        String text = "river 3;owner a;colour c;bank b of a colour c at 0 holds 99 size 9;cut level;settle level;";
        SiltShare x = Due.river(text);
        x.seed(4242);
        Due.tell(x, text);
        due.is("river()", x.river(), 6);
        SiltShare y = Due.river(text);
        y.seed(4242);
        for (int i = 0; i < 5; i++) {
            due.is("years(1) by a seed that stays", x.years(1), y.years(1));
        }
    }
}
