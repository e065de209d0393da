/** Term I and promises 1 to 5: the text of a RIVER and its FAULTS, a new object, the tape. */
public final class TextTests {
    private static final String I = "Term I";
    private static final String START = "river 3;owner a;colour c;";
    private static final String BANK = "bank b of a colour c at 0 holds 1 size 1;";
    private static final String[] OWN_WORDS = {"river", "slope", "at", "owner", "colour", "bank", "of", "holds", "size", "cut",
        "settle", "rises", "joins", "ebb", "level", "flow", "held", "stones", "year", "place", "min", "max"};

    public static void main(String[] args) {
        Due due = new Due("TextTests");
        calls(due);
        statements(due);
        rivers(due);
        slopes(due);
        ownersAndColours(due);
        banks(due);
        cutsAndSettles(due);
        numbersToldOnce(due);
        sums(due);
        names(due);
        ownWords(due);
        namesUnlike(due);
        blanks(due);
        faultsFirst(due);
        faultsOfBytes(due);
        faultsOfSums(due);
        faultsOfNumbers(due);
        faultsOfNames(due);
        faultsOfDepth(due);
        faultsOfMany(due);
        newObject(due);
        feeds(due);
        ends(due);
        tapeGoes(due);
        allStays(due);
        anew(due);
        seedStays(due);
        faults(due);
        due.finish();
    }

    private static void calls(Due due) {
        due.holds("What it is", "An object is used for at most 512 calls after it has been made; what later calls answer is free.");
        SiltShare x = Due.river("river 3;cut 1;"); // four calls
        for (int call = 5; call < 512; call++) {
            due.is("flood(0) as call " + call, x.flood(0), 0);
        }
        due.is("has(7) as call 512", x.has(7), 507);
        SiltShare y = new SiltShare();
        for (int call = 1; call < 512; call++) {
            due.is("feed() as call " + call, y.feed(0, 0, 0, 0, 0), call > 80 ? -1 : 20 * call);
        }
        due.is("status(0) as call 512", y.status(0), 431);
    }

    private static void statements(Due due) {
        due.holds(I, "A RIVER is a text: { STATEMENT ; } (70 at most)");
        String full = "river 3;" + Due.times("ebb 1;", 69);
        due.isRiver(full, 70);
        due.isRiver(full + "  \n", 70);
        due.isRiver("river 3;", 1);
        due.isRiver("river 3;" + Due.times("ebb 1;", 68), 69);
        due.faultOfRiver(full + "ebb 1;", 5, full.length());
        due.fault(1, "river 3|");
        due.fault(1, "river 3;ebb 1|");
        due.fault(1, "river 3 |");
        due.fault(1, "river 3;|;");
        due.fault(1, "|;river 3;");
        due.fault(1, "|;");
        due.fault(1, "|;ebb 1;");
        due.fault(1, "river 3 |ebb 1;");
        due.fault(1, "river 3|:");
    }

    private static void rivers(Due due) {
        due.holds(I, "river N (3 .. 8 REACHES, numbered from 0; the first STATEMENT, and it alone)");
        for (int n = 3; n <= 8; n++) {
            SiltShare x = Due.river("river " + n + ";slope 7 at " + (n - 1) + ";slope 5 at 0;");
            due.is("has(0)", x.has(0), n);
            due.is("reach(-1, 0)", x.reach(-1, 0), -1);
            due.is("reach(0, 0)", x.reach(0, 0), 5);
            due.is("reach(1, 0)", x.reach(1, 0), 0);
            due.is("reach of the last one", x.reach(n - 1, 0), 7);
            due.is("reach behind the last one", x.reach(n, 0), -1);
        }
        due.fault(2, "river |2;");
        due.fault(2, "river |9;");
        due.fault(2, "river |0;");
        due.fault(2, "river |10;");
        due.fault(2, "river |9999;");
        due.fault(1, "river 3;|river 3;");
        due.fault(1, "river 3;ebb 1; |river 4;");
        for (String first : new String[] {"slope 1 at 0;", "owner a;", "colour c;", "bank b of a", "cut 1;", "settle 1;", "rises 1;",
            "joins 1;", "ebb 1;"}) {
            due.fault(1, "|" + first + "river 3;");
        }
    }

    private static void slopes(Due due) {
        due.holds(I, "slope N at N (0 .. 9, a REACH; the last one of a REACH counts, 0 without)");
        due.isRiver("river 3;slope 9 at 2;slope 0 at 0;", 3);
        due.isRiver("river 8;slope 1 at 7;", 2);
        due.fault(2, "river 3;slope |10 at 0;");
        due.fault(2, "river 3;slope |10;");
        due.fault(1, "river 3;slope 1|;");
        due.fault(1, "river 3;slope |;");
        due.fault(2, "river 3;slope 1 at |3;");
        due.fault(2, "river 4;slope 1 at |4;");
        due.fault(2, "river 7;slope 1 at |7;");
        due.fault(2, "river 8;slope 1 at |8;");
        SiltShare x = Due.river("river 5;slope 1 at 4;slope 7 at 4;slope 2 at 3;slope 9 at 0;slope 3 at 2;slope 0 at 2;");
        int[] want = {9, 0, 0, 2, 7};
        for (int r = 0; r < 5; r++) {
            due.is("reach(" + r + ", 0)", x.reach(r, 0), want[r]);
        }
        for (int i = 0; i < 3; i++) {
            Due.tell(x, "river 5;");
            x.river();
            for (int r = 0; r < 5; r++) {
                due.is("reach(" + r + ", 0) of a new river", x.reach(r, 0), 0);
            }
        }
    }

    private static void ownersAndColours(Due due) {
        due.holds(I, "owner NAME (5 OWNERS)");
        String owners = "river 3;owner a;owner b;owner d;owner e;owner f;";
        due.isRiver(owners, 6);
        due.is("has(1)", Due.river(owners).has(1), 5);
        due.fault(5, owners + "|owner g;");
        due.isRiver(owners + "colour g;", 7);
        due.holds(I, "colour NAME (5 COLOURS)");
        String colours = "river 3;colour a;colour b;colour d;colour e;colour f;";
        due.isRiver(colours, 6);
        due.is("has(2)", Due.river(colours).has(2), 5);
        due.fault(5, colours + "|colour g;");
        due.isRiver(colours + "owner g;", 7);
    }

    private static String tenBanks() {
        StringBuilder banks = new StringBuilder(START);
        for (char name = 'k'; name < 'k' + 10; name++) {
            banks.append("bank ").append(name).append(" of a colour c at 1 holds 9 size 3;");
        }
        return banks.toString();
    }

    private static void banks(Due due) {
        due.holds(I, "bank NAME of NAME colour NAME at N holds N size N (an OWNER, a COLOUR, a REACH; 0 .. 99 grains, 1 .. 9; 10 BANKS)");
        due.isRiver(START + "bank b of a colour c at 2 holds 99 size 9;bank d of a colour c at 0 holds 0 size 1;", 5);
        due.isRiver("river 8;owner a;colour c;bank b of a colour c at 7 holds 1 size 1;", 4);
        due.fault(3, START + "bank b of |c colour c at 0 holds 1 size 1;");
        due.fault(3, START + "bank b of |b colour c at 0 holds 1 size 1;");
        due.fault(3, START + "bank b of a colour |a at 0 holds 1 size 1;");
        due.fault(3, START + "bank b of a colour |b at 0 holds 1 size 1;");
        due.fault(2, START + "bank b of a colour c at |3 holds 1 size 1;");
        due.fault(2, "river 8;owner a;colour c;bank b of a colour c at |8 holds 1 size 1;");
        due.fault(2, START + "bank b of a colour c at 0 holds |100 size 1;");
        due.fault(2, START + "bank b of a colour c at 0 holds |9999 size 1;");
        due.fault(2, START + "bank b of a colour c at 0 holds 1 size |0;");
        due.fault(2, START + "bank b of a colour c at 0 holds 1 size |10;");
        due.isRiver(tenBanks(), 13);
        SiltShare x = Due.river(tenBanks());
        due.is("has(3)", x.has(3), 10);
        due.is("bank(9, 3)", x.bank(9, 3), 3);
        due.is("bank(10, 3)", x.bank(10, 3), -1);
        due.fault(5, tenBanks() + "|bank z of a colour c at 1 holds 9 size 3;");
        due.isRiver(tenBanks() + "owner z;", 14);
    }

    private static void cutsAndSettles(Due due) {
        due.holds(I, "cut SUM, settle SUM (one each)");
        due.isRiver("river 3;cut 1;", 2);
        due.isRiver("river 3;settle 1;", 2);
        due.isRiver("river 3;settle 1;cut 2;", 3);
        due.fault(5, "river 3;cut 1;|cut 1;");
        due.fault(5, "river 3;settle 1;|settle 1;");
        due.fault(5, "river 3;cut 1;settle 1;|cut 1;");
        due.fault(5, "river 3;cut 1;settle 1;|settle 1;");
        // a river() with a FAULT behind its cut keeps none of it
        SiltShare x = new SiltShare();
        Due.tell(x, "river 3;cut 1;settle 1;oops");
        due.is("river()", x.river(), -1);
        Due.tell(x, "river 3;cut 1;settle 1;");
        due.is("river()", x.river(), 3);
        due.is("river() of nothing", x.river(), -1);
        Due.tell(x, "river 3;settle 1;cut 1;");
        due.is("river()", x.river(), 3);
    }

    private static void numbersToldOnce(Due due) {
        due.holds(I, "rises N, joins N (1 .. 99), ebb N (0 .. 50): the last one of each counts (without: 10, 20, 0)");
        due.isRiver("river 3;rises 1;rises 99;joins 1;joins 99;ebb 0;ebb 50;", 7);
        due.fault(2, "river 3;rises |0;");
        due.fault(2, "river 3;rises |100;");
        due.fault(2, "river 3;joins |0;");
        due.fault(2, "river 3;joins |100;");
        due.fault(2, "river 3;ebb |51;");
        due.fault(2, "river 3;ebb |99;");
        SiltShare x = Due.river("river 5;ebb 5;ebb 7;rises 3;rises 4;joins 5;joins 6;");
        due.is("has(4)", x.has(4), 4);
        due.is("has(5)", x.has(5), 6);
        due.is("has(6)", x.has(6), 7);
        x = Due.river("river 3;rises 99;joins 99;ebb 50;rises 1;joins 1;ebb 0;");
        due.is("has(4)", x.has(4), 1);
        due.is("has(5)", x.has(5), 1);
        due.is("has(6)", x.has(6), 0);
        Due.tell(x, "river 3;rises 99;joins 98;ebb 50;");
        x.river();
        due.is("has(4)", x.has(4), 99);
        due.is("has(5)", x.has(5), 98);
        due.is("has(6)", x.has(6), 50);
        for (int i = 0; i < 3; i++) {
            Due.tell(x, "river 3;");
            x.river();
            due.is("has(4) without", x.has(4), 10);
            due.is("has(5) without", x.has(5), 20);
            due.is("has(6) without", x.has(6), 0);
        }
    }

    private static void sums(Due due) {
        due.holds(I, "SUM: PRODUCT { + or - PRODUCT }. PRODUCT: PART { * or / PART }. PART: N (1 to 4 digits); level; flow; size; held; stones; "
            + "year; place; ( SUM ) ; min ( SUM , SUM ) ; max ( SUM , SUM ) .");
        due.isRiver("river 3;cut 9999*(level+flow-size/held)*stones+year-place;", 2);
        due.isRiver("river 3;settle min(1,max(level,2))+max ( 3 , min ( 4 , 5 ) ) ;", 2);
        due.isRiver("river 3;cut((((((1))))));settle(1)+((((((1))))))+(2);", 3);
        due.isRiver("river 3;cut 0;settle 0000;", 3);
        due.isRiver("river 3;cut 0001;settle 9999;", 3);
        due.isRiver("river 0003;slope 0009 at 0002;ebb 0050;", 3);
        due.isRiver("river 3;cut 1" + Due.times("+1", 793) + ";", 2);
        due.isRiver("river 3;cut 1" + Due.times("*1", 793) + ";", 2);
        due.isRiver("river 3;cut 1" + Due.times("/1", 793) + ";", 2);
        due.isRiver("river 3;cut " + Due.times("(1)+", 396) + "1;", 2);
        due.fault(1, "river 3;cut 1234|5;");
        due.fault(1, "river 3;cut 0000|1;");
        due.fault(1, "river 3;cut 1+1000|0;");
        due.fault(1, "river 3;cut (9999|9);");
    }

    private static void names(Due due) {
        due.holds(I, "NAMES: 1 to 6 letters");
        due.isRiver("river 3;owner z;owner abcdef;colour zzzzzz;colour y;", 5);
        due.fault(1, "river 3;owner abcdef|g;");
        due.fault(1, "river 3;owner zzzzzz|z;");
        due.fault(1, "river 3;owner abcdef|gh;");
        due.fault(1, "river 3;owner |;");
        due.fault(1, "river 3;owner|;");
        for (int c = 1; c < 256; c++) {
            boolean is = c >= 'a' && c <= 'z';
            boolean blank = c == 10 || c == 32;
            if (is) {
                due.isRiver("river 3;owner " + (char) c + ";", 2);
                due.isRiver("river 3;owner " + (char) c + (char) c + ";", 2);
            } else {
                due.faultOfRiver("river 3;owner " + (char) c + ";", 1, blank ? 15 : 14);
                if (!blank && c != ';') {
                    due.faultOfRiver("river 3;owner q" + (char) c + ";", 1, 15);
                }
            }
        }
    }

    private static void ownWords(Due due) {
        due.holds(I, "1 to 6 letters, no OWN WORD, unlike ones");
        due.fault(1, "river 3;owner |max;");
        due.fault(1, "river 3;colour |bank;");
        due.isRiver("river 3;owner maxx;colour ban;", 3);
        due.holds(I, "OWN WORDS: river, slope, at, owner, colour, bank, of, holds, size, cut, settle, rises, joins, ebb, level, flow, held, stones, "
            + "year, place, min, max.");
        for (String word : OWN_WORDS) {
            due.fault(1, "river 3;owner |" + word + ";");
            due.fault(1, "river 3;colour |" + word + ";");
            due.fault(1, START + "bank |" + word + " of a colour c at 0 holds 1 size 1;");
            due.fault(1, START + "bank b of |" + word + " colour c at 0 holds 1 size 1;");
            due.fault(1, START + "bank b of a colour |" + word + " at 0 holds 1 size 1;");
            due.isRiver("river 3;owner " + word.substring(1) + "q;", 2);
            due.isRiver("river 3;owner " + word.substring(0, word.length() - 1) + "q;", 2);
            if (word.length() < 6) {
                due.isRiver("river 3;owner " + word + "s;", 2);
            }
        }
        // the words of QUESTIONS are none
        for (String word : new String[] {"first", "last", "often", "total", "most", "least", "and", "or", "not", "all", "taken", "sea", "lies"}) {
            due.isRiver("river 3;owner " + word + ";", 2);
        }
    }

    private static void namesUnlike(Due due) {
        due.holds(I, "unlike ones (of all sorts), told ahead of where they are asked");
        due.fault(3, "river 3;owner a;owner |a;");
        due.fault(3, "river 3;owner a;colour |a;");
        due.fault(3, "river 3;colour a;owner |a;");
        due.fault(3, "river 3;colour a;colour |a;");
        due.fault(3, START + "bank |a of a colour c at 0 holds 1 size 1;");
        due.fault(3, START + "bank |c of a colour c at 0 holds 1 size 1;");
        due.fault(3, START + BANK + "bank |b of a colour c at 0 holds 1 size 1;");
        due.fault(3, START + BANK + "owner |b;");
        due.fault(3, START + BANK + "colour |b;");
        due.fault(3, "river 3;owner abcdef;owner abcdeg;owner |abcdef;");
        due.isRiver("river 3;owner a;owner aa;owner aaa;owner aaaa;owner ba;colour aaaaa;colour aaaaaa;colour ab;", 9);
        due.fault(3, "river 3;colour c;bank b of |a colour c at 0 holds 1 size 1;owner a;");
        due.fault(3, "river 3;owner a;bank b of a colour |c at 0 holds 1 size 1;colour c;");
        // NAMES of a river() that was ahead are no more
        SiltShare x = Due.river(START + BANK);
        Due.tell(x, "river 3;owner b;owner c;colour a;");
        due.is("river()", x.river(), 4);
        Due.tell(x, "river 3;bank b of c");
        due.is("river()", x.river(), -1);
        due.is("fault(0)", x.fault(0), 3);
        due.is("fault(1)", x.fault(1), 18);
    }

    private static void blanks(Due due) {
        due.holds(I, "Blanks (10, 32) are where one likes (words and numbers side by side need one).");
        due.isRiver(" \n river\n8 ; ", 1);
        due.isRiver("\n\n\nriver 3\n;\n\nowner\na\n;\n", 2);
        due.isRiver("river 3;cut(level)+min(1,2)*3;ebb 1;", 3);
        due.isRiver("river 3 ; cut ( level ) + min ( 1 , 2 ) * 3 ; ebb 1 ; ", 3);
        due.isRiver("river 3;" + Due.times(" ", 1592), 1);
        due.isRiver(Due.times("\n", 1592) + "river 3;", 1);
        for (int c = 0; c < 256; c++) {
            boolean letter = c >= 'a' && c <= 'z';
            if (c == 10 || c == 32) {
                due.isRiver("river" + (char) c + "3;", 1);
                due.isRiver((char) c + "river 3" + (char) c + ";" + (char) c, 1);
            } else {
                due.faultOfRiver("river" + (char) c + "3;", 1, letter ? 0 : 5);
                due.faultOfRiver("river 3;" + (char) c, 1, 8);
            }
        }
        due.fault(1, "river 3;slope 1|at 0;");
        due.fault(1, "river 3;slope 1 at|0;");
        due.fault(1, "river 3;slope|1 at 0;");
        due.fault(1, "river 3;rises|1;");
        due.fault(1, "river 3;joins|1;");
        due.fault(1, "river 3;ebb|1;");
        due.fault(1, "river 3;cut|3;");
        due.fault(1, "river 3;settle|3;");
        due.fault(1, "river 3;|ownera;");
        due.fault(1, START + "bank b |ofa colour c at 0 holds 1 size 1;");
        due.fault(1, START + "bank b of a |colourc at 0 holds 1 size 1;");
        due.fault(1, START + "bank b of a colour c at|0 holds 1 size 1;");
        due.fault(1, START + "bank b of a colour c at 0|holds 1 size 1;");
        due.fault(1, START + "bank b of a colour c at 0 holds|1 size 1;");
        due.fault(1, START + "bank b of a colour c at 0 holds 1|size 1;");
        due.fault(1, START + "bank b of a colour c at 0 holds 1 size|1;");
        due.fault(1, "river 3;cut 2|level;");
        due.fault(1, "river 3;cut level|2;");
    }

    private static void faultsFirst(Due due) {
        due.holds(I, "FAULTS, the first along the text");
        due.fault(2, "river |2;ebb 51;");
        due.fault(2, "river  |9x");
        due.fault(2, "river |9999");
        due.fault(3, "river 3;owner a;colour |a;cut ((((((((");
        due.fault(4, "river 3;cut ((((((|(1;owner a;owner a;");
        due.fault(1, "river 3;|x;river 9;");
        due.fault(2, START + "bank b of a colour c at |3 holds 100 size 0;");
        due.fault(3, START + "bank b of |d colour d at 3 holds 100 size 0;");
        due.fault(3, START + "bank |c of d colour d at 3 holds 100 size 0;");
        due.fault(2, START + "bank b of a colour c at 0 holds |100 size 0");
        due.fault(5, "river 3;cut 1;|cut ((((((((");
        due.fault(5, tenBanks() + "|bank k of q");
    }

    private static void faultsOfBytes(Due due) {
        due.holds(I, "1 the first byte with which no such text goes on (words and numbers whole, at their first byte;");
        due.fault(1, "|riv");
        due.fault(1, " |rivers 3;");
        due.fault(1, "|rive 3;");
        due.fault(1, "river |x;");
        due.fault(1, "river 3|x");
        due.fault(1, "river 3 |4;");
        due.fault(1, "river 3 |44;");
        due.fault(1, "river 3; |5;");
        due.fault(1, "river 3;|\t");
        due.fault(1, "river 3;|River 3;");
        due.fault(1, "river 3;|level 3;");
        due.fault(1, "river 3;|slopes 1 at 0;");
        due.fault(1, "river 3;|ow");
        due.fault(1, "river 3;slope 1 |att 0;");
        due.fault(1, "river 3;slope 1 |a 0;");
        due.fault(1, "river 3;slope 1 |of 0;");
        due.fault(1, "river 3;slope |x at 0;");
        due.fault(1, "river 3;slope 1 at |x;");
        due.fault(1, "river 3;slope 1 at 0 |1;");
        due.fault(1, "river 3;rises |x;");
        due.fault(1, "river 3;rises |-1;");
        due.fault(1, "river 3;joins |x;");
        due.fault(1, "river 3;ebb |;");
        due.fault(1, "river 3;owner |5;");
        due.fault(1, "river 3;owner |A;");
        due.fault(1, "river 3;owner a|1;");
        due.fault(1, "river 3;owner a |b;");
        due.fault(1, "river 3;cut 1;|" + (char) 0xe9);
        due.fault(1, "river 3;|" + (char) ('e' + 128) + "bb 1;");
        due.fault(1, "river 3|" + (char) (';' + 128));
        due.fault(1, START + "bank b |off a");
        due.fault(1, START + "bank b of a |c");
        due.fault(1, START + "bank b of a |colours c");
        due.fault(1, START + "bank b of a colour c |holds");
        due.fault(1, START + "bank b of a colour c at 0 |size");
        due.fault(1, START + "bank b of a colour c at 0 holds 1 |holds");
        due.fault(1, START + "bank b of a colour c at 0 holds 1 |siz 1;");
        due.fault(1, START + "bank b of a colour c at |b holds 1 size 1;");
        due.fault(1, START + "bank b of a colour c at 0 holds |b size 1;");
        due.fault(1, START + "bank b of a colour c at 0 holds 1 size |b;");
        due.fault(1, START + "bank b of a colour c at 0 holds 1 size 1 |1;");
        namesAndNumbersAsked(due);
        endsTooSoon(due);
    }

    private static void namesAndNumbersAsked(Due due) {
        due.holds(I, "where a NAME is asked, an OWN WORD so, a 7th letter at itself;");
        due.fault(1, "river 3;owner |river;");
        due.fault(1, "river 3;colour |settle;");
        due.fault(1, START + "bank |of of");
        due.fault(1, START + "bank b of |of");
        due.fault(1, START + "bank b of a colour |at");
        due.fault(1, "river 3;owner abcdef|gh;");
        due.fault(1, "river 3;owner settle|s;");
        due.fault(1, "river 3;owner abcdef;owner abcdef|g;");
        due.fault(1, START + "bank abcdef|g of");
        due.fault(1, START + "bank b of abcdef|g");
        due.fault(1, START + "bank b of a colour abcdef|g");
        due.holds(I, "where a number is asked, a 5th digit at itself;");
        due.fault(1, "river 0000|3;");
        due.fault(1, "river 1234|5;");
        due.fault(1, "river 3;ebb 9999|9;");
        due.fault(1, "river 3;slope 0000|1 at 0;");
        due.fault(1, "river 3;slope 1 at 0000|0;");
        due.fault(1, "river 3;rises 0001|0;");
        due.fault(1, "river 3;joins 0001|0;");
        due.fault(1, "river 3;ebb 0000|00;");
        due.fault(1, START + "bank b of a colour c at 0000|0 holds");
        due.fault(1, START + "bank b of a colour c at 0 holds 0000|1 size");
        due.fault(1, START + "bank b of a colour c at 0 holds 1 size 0000|1;");
        due.fault(1, "river 3;cut 1234|5;");
        due.fault(1, "river 3;settle 1+(1234|5");
    }

    private static void endsTooSoon(Due due) {
        due.holds(I, "at the text's length, if it ends too soon);");
        due.fault(1, "river|");
        due.fault(1, "river  |");
        due.fault(1, "river 3|");
        due.fault(1, "river 3;owner|");
        due.fault(1, "river 3;owner a|");
        due.fault(1, "river 3;owner a  \n|");
        due.fault(1, "river 3;slope|");
        due.fault(1, "river 3;slope 1|");
        due.fault(1, "river 3;slope 1 at|");
        due.fault(1, "river 3;slope 1 at 0|");
        due.fault(1, "river 3;colour |");
        due.fault(1, "river 3;cut|");
        due.fault(1, "river 3;cut 1|");
        due.fault(1, "river 3;cut 1+|");
        due.fault(1, "river 3;cut (|");
        due.fault(1, "river 3;cut min|");
        due.fault(1, "river 3;cut min(1|");
        due.fault(1, "river 3;cut min(1,|");
        due.fault(1, "river 3;cut min(1,1|");
        due.fault(1, "river 3;rises|");
        due.fault(1, "river 3;joins |");
        due.fault(1, "river 3;ebb|");
        String bank = "bank b of a colour c at 0 holds 1 size 1";
        for (int i = 4; i < bank.length(); i++) {
            if (bank.charAt(i) == ' ') {
                due.fault(1, START + bank.substring(0, i) + "|");
                due.fault(1, START + bank.substring(0, i) + " |");
            }
        }
        due.fault(1, START + bank + "|");
        String sum = "river 3;cut 1" + Due.times("+1", 793);
        due.fault(1, sum + "+|");
        due.fault(1, sum + "1|");
        due.fault(1, sum + " |");
        due.fault(1, "river 3;" + Due.times(" ", 1585) + "colour |");
        due.fault(1, "river 3;owner" + Due.times(" ", 1586) + "a|");
        due.fault(1, Due.times(" ", 1600) + "|");
    }

    private static void faultsOfSums(Due due) {
        due.holds(I, "1 the first byte with which no such text goes on");
        due.fault(1, "river 3;cut|;");
        due.fault(1, "river 3;cut |-1;");
        due.fault(1, "river 3;cut |+1;");
        due.fault(1, "river 3;cut 1+|;");
        due.fault(1, "river 3;cut 1+|*2;");
        due.fault(1, "river 3;cut 1-|-2;");
        due.fault(1, "river 3;cut 1 |2;");
        due.fault(1, "river 3;cut 1 |level;");
        due.fault(1, "river 3;cut (1|;");
        due.fault(1, "river 3;cut (|);");
        due.fault(1, "river 3;cut 1|);");
        due.fault(1, "river 3;cut (1)|2;");
        due.fault(1, "river 3;cut (1)|(2);");
        due.fault(1, "river 3;cut (1|,2);");
        due.fault(1, "river 3;cut 1|,2;");
        due.fault(1, "river 3;cut min |1;");
        due.fault(1, "river 3;cut min|;");
        due.fault(1, "river 3;cut min(1|);");
        due.fault(1, "river 3;cut min(|,1);");
        due.fault(1, "river 3;cut min(1,|);");
        due.fault(1, "river 3;cut min(1,2|,3);");
        due.fault(1, "river 3;cut max(1,2|;");
        due.fault(1, "river 3;cut max(1+|;");
        due.fault(1, "river 3;cut 1|%2;");
        due.fault(1, "river 3;cut 1|=2;");
        for (String word : new String[] {"levels", "leve", "lies", "taken", "sea", "holds", "all", "not", "a", "flo", "sizes", "mi", "maxi", "river"}) {
            due.fault(1, "river 3;cut |" + word + " 1;");
            due.fault(1, "river 3;settle 1+|" + word + ";");
        }
        due.fault(1, "river 3;cut |[1];");
        due.fault(1, "river 3;cut 1" + Due.times("+1", 793) + "|x");
    }

    private static void faultsOfNumbers(Due due) {
        due.holds(I, "2 a number that can't be, at it;");
        due.fault(2, "river    |2;");
        due.fault(2, "river |0009;");
        due.fault(2, "river 3;slope\n|10 at 0;");
        due.fault(2, "river 3;slope 1 at  |3;");
        due.fault(2, "river 3;rises |0000;");
        due.fault(2, "river 3;rises |100;");
        due.fault(2, "river 3;joins |0;");
        due.fault(2, "river 3;joins |9999;");
        due.fault(2, "river 3;ebb |51");
        due.fault(2, START + "bank b of a colour c at |3 holds");
        due.fault(2, START + "bank b of a colour c at 0 holds |100;");
        due.fault(2, START + "bank b of a colour c at 0 holds 99 size |0;");
        due.fault(2, START + "bank b of a colour c at 0 holds 99 size |10;");
    }

    private static void faultsOfNames(Due due) {
        due.holds(I, "3 a NAME to be given that is there already, one that is none of what is asked, at it;");
        due.fault(3, "river 3;owner ab;owner a;owner   |ab;");
        due.fault(3, "river 3;owner a;colour |a");
        due.fault(3, START + "bank |a of");
        due.fault(3, START + "bank |c of");
        due.fault(3, START + "bank b of |b");
        due.fault(3, START + "bank b of |c");
        due.fault(3, START + "bank b of |aa");
        due.fault(3, START + "bank b of |q");
        due.fault(3, START + "bank b of |first");
        due.fault(3, START + "bank b of a colour |a");
        due.fault(3, START + "bank b of a colour |b");
        due.fault(3, START + "bank b of a colour |cc");
        due.fault(3, START + BANK + "bank d of |b");
        due.fault(3, START + BANK + "bank d of a colour |b");
        due.fault(3, START + BANK + "owner |b;");
    }

    private static void faultsOfDepth(Due due) {
        due.holds(I, "4 the 7th ( that is open at once, at it;");
        due.isRiver("river 3;cut ((((((1))))));", 2);
        due.isRiver("river 3;cut min(min(min(min(min(min(1,2),3),4),5),6),7);", 2);
        due.isRiver("river 3;cut ((((((1))))))*((((((2))))))-max(1,(((((1))))));settle ((((((1))))));", 3);
        due.isRiver("river 3;cut ((1)+((2)+((3)+((4)+((5)+(6))))))" + Due.times("+(1)", 9) + ";", 2);
        due.fault(4, "river 3;cut ((((((|(1)))))));");
        due.fault(4, "river 3;cut ((((((1))))))+((((((min|(");
        due.fault(4, "river 3;cut ((((((1)))))+(((((1)))))+(((((|(");
        due.fault(4, "river 3;cut min(min(min(min(min(min(max|(");
        due.fault(4, "river 3;cut min(1,min(1,min(1,min(1,min(1,min(1,max  |(");
        SiltShare x = new SiltShare();
        Due.tell(x, "river 3;cut (((((((1");
        due.is("river() that is too deep", x.river(), -1);
        Due.tell(x, "river 3;cut ((((((1))))));");
        due.is("river() that is just so deep, behind it", x.river(), 2);
        due.fault(1, "river 3;cut ((((((1|(");
        due.fault(1, "river 3;cut ((((((min|;");
        due.fault(4, "river 3;cut (((((( |(");
        due.fault(4, "river 3;cut 1;settle ((((((|(1");
    }

    private static void faultsOfMany(Due due) {
        due.holds(I, "5 one too many of a kind (a second cut, settle, too), a 71st STATEMENT (whatever stands there), at its first byte.");
        due.fault(5, "river 3; cut 1; |cut");
        due.fault(5, "river 3;settle 1;|settle x");
        due.fault(5, "river 3;cut 1;settle 1; \n |cut 1");
        due.fault(1, "river 3;cut 1;|cuts 1");
        due.fault(5, "river 3;owner a;owner b;owner d;owner e;owner f;|owner");
        due.fault(5, "river 3;owner a;owner b;owner d;owner e;owner f; |owner a;");
        due.fault(1, "river 3;owner a;owner b;owner d;owner e;owner f;|owners");
        due.fault(5, "river 3;colour a;colour b;colour d;colour e;colour f;|colour a");
        due.fault(5, tenBanks() + " |bank z");
        due.fault(5, tenBanks() + "|bank k");
        String full = "river 3;" + Due.times("ebb 1;", 69);
        for (String rest : new String[] {"ebb 1;", "x", "\t", "river", ";", "7", "cut 1;", "owner abcdefgh", "" + (char) 200, "((((((((", "ebb 99;"}) {
            due.fault(5, full + "|" + rest);
            due.fault(5, full + " \n |" + rest);
        }
        String cut = "river 3;cut 1;owner a;owner b;owner d;owner e;owner f;" + Due.times("ebb 1;", 62);
        due.fault(5, cut + "|cut");
        due.fault(5, cut + "|owner g;");
        due.fault(1, cut + "|colours");
        due.fault(5, cut + "ebb 1;|colours");
        due.fault(1, "river 3;" + Due.times("ebb 1;", 68) + "|x");
    }

    private static void newObject(Due due) {
        due.holds("Promise 1", "No river, nobody.");
        SiltShare x = new SiltShare();
        int[] first = {0, 0, 0, 0, 10, 20, 0, 0, 0, 0, 0, 0, 0, -1};
        for (int what = 0; what < first.length; what++) {
            due.is("new has(" + what + ")", x.has(what), first[what]);
        }
        due.is("new fault(0)", x.fault(0), 0);
        due.is("new fault(1)", x.fault(1), -1);
        due.is("new letter(0, 0, 0)", x.letter(0, 0, 0), -1);
        due.is("new bank(0, 0)", x.bank(0, 0), -1);
        due.is("new reach(0, 0)", x.reach(0, 0), -1);
        due.is("new lies(0, 0)", x.lies(0, 0), -1);
        due.is("new share(0, 0)", x.share(0, 0), -1);
        due.is("new tint(0, 0)", x.tint(0, 0), -1);
        due.is("new flow(0, 0)", x.flow(0, 0), -1);
        due.is("new cuts(0, 0)", x.cuts(0, 0), -1);
        due.is("new settles(0, 0, 0)", x.settles(0, 0, 0), -1);
        due.is("new carries(0, 0, 0)", x.carries(0, 0, 0), -1);
        due.is("new would(0, 0)", x.would(0, 0), -1);
        due.is("new mine(0, 0, 0, 0, -1)", x.mine(0, 0, 0, 0, -1), -1);
        due.is("new keep(0, 0, 0, -1)", x.keep(0, 0, 0, -1), -1);
        due.is("new until(0, 0, 0)", x.until(0, 0, 0), -1);
        due.is("new levels()", x.levels(), -1);
        due.is("new forged(0)", x.forged(0), -1);
        due.is("new octet(0)", x.octet(0), -1);
        due.is("new end(1)", x.end(1), false);
        due.is("new end(0)", x.end(0), true);
    }

    private static void feeds(Due due) {
        due.holds("Promise 2", "Twenty bytes come behind those on the tape, of each number the highest first: how many there are;");
        SiltShare x = new SiltShare();
        due.is("feed", x.feed(0x72697665, 0x7220333b, 0x6f776e65, 0x72206162, 0x63646566), 20); // river 3;owner abcdef
        due.is("feed", x.feed(0x3b636f6c, 0x6f757220, 0x7a3b6f77, 0x6e657220, 0x783b0a20), 40); // ;colour z;owner x;
        due.is("river()", x.river(), 4);
        for (int k = 0; k < 6; k++) {
            due.is("letter(0, 0, " + k + ")", x.letter(0, 0, k), k + 1);
        }
        due.is("letter(1, 0, 0)", x.letter(1, 0, 0), 26);
        due.is("letter(0, 1, 0)", x.letter(0, 1, 0), 24);
        // all of a byte, and numbers below 0: two bytes a COLOUR, of one that nothing lies of
        x = Due.river("river 3;colour c;");
        int[][] fed = {{0xfffe0000, 65534}, {0x80000000, 32768}, {0x7fff8080, 32767}, {0x00ff0000, 255}, {0x01000000, 256}};
        for (int[] it : fed) {
            due.is("feed", x.feed(it[0], -1, -1, -1, -1), 20);
            due.is("end(2)", x.end(2), true);
            due.is("forged(0)", x.forged(0), it[1]);
        }
        x.feed(0, 0, 0, 0, 0x00000102);
        x.end(18);
        due.is("feed behind 18", x.feed(0x12345678, 0, 0, 0, 0), 38);
        feedsTooMuch(due);
    }

    private static void feedsTooMuch(Due due) {
        due.holds("Promise 2", "NONE, refused (0), if there would be more than 1600.");
        SiltShare x = new SiltShare();
        for (int i = 1; i <= 80; i++) {
            due.is("feed no. " + i, x.feed(0, 0, 0, 0, 0), 20 * i);
        }
        due.is("status(0)", x.status(0), 0);
        due.is("feed beyond 1600", x.feed(0, 0, 0, 0, 0), -1);
        due.is("status(0)", x.status(0), 1);
        due.is("end(1600)", x.end(1600), true);
        due.is("feed beyond 1600", x.feed(0, 0, 0, 0, 0), -1);
        due.is("end(1581)", x.end(1581), true);
        due.is("feed of 1581", x.feed(0, 0, 0, 0, 0), -1);
        due.is("status(0)", x.status(0), 3);
        due.is("nothing came", x.end(1582), false);
        due.is("end(1580)", x.end(1580), true);
        due.is("feed of 1580", x.feed(0, 0, 0, 0, 0), 1600);
        due.is("status(0)", x.status(0), 4);
        due.is("end(1599)", x.end(1599), true);
        due.is("feed of 1599", x.feed(0, 0, 0, 0, 0), -1);
        due.is("end(0)", x.end(0), true);
        due.is("feed of none", x.feed(0, 0, 0, 0, 0), 20);
    }

    private static void ends(Due due) {
        due.holds("Promise 3", "The tape has its first n bytes alone: true;");
        SiltShare x = new SiltShare();
        due.is("end(0) of an empty tape", x.end(0), true);
        x.feed(0x72697665, 0x7220333b, 0x20202020, 0x20202020, 0x20202020);
        due.is("end(20)", x.end(20), true);
        due.is("end(8)", x.end(8), true);
        due.is("end(8) again", x.end(8), true);
        due.is("feed of 8", x.feed(0x6f776e65, 0x7220613b, 0x7220333b, 0, 0), 28); // owner a;
        due.is("end(16)", x.end(16), true);
        due.is("river() of what end() left", x.river(), 2);
        x.feed(0, 0, 0, 0, 0);
        due.is("end(0)", x.end(0), true);
        due.is("end(1) of nothing", x.end(1), false);
        endsCutOff(due);
        due.holds("Promise 3", "false, refused (0), if it has not so many, or n is below 0.");
        x = new SiltShare();
        due.is("end(1) of an empty tape", x.end(1), false);
        x.feed(0x72697665, 0x7220333b, 0x20202020, 0x20202020, 0x20202020);
        due.is("end(21)", x.end(21), false);
        due.is("end(-1)", x.end(-1), false);
        due.is("end(MIN)", x.end(Integer.MIN_VALUE), false);
        due.is("end(MAX)", x.end(Integer.MAX_VALUE), false);
        due.is("status(0)", x.status(0), 5);
        due.is("the tape stays", x.river(), 1);
        due.is("end(20) of a tape that went", x.end(20), false);
        due.is("status(0)", x.status(0), 6);
    }

    /** What was cut off is no part of the text, though it would go on so well. */
    private static void endsCutOff(Due due) {
        SiltShare x = new SiltShare();
        String[] whole = {"river 3;ebb 1;", "river 3       ", "river 3;ebb 1 ;", "river 3;rises 12;", "river 3;owner abcd;", "river 3;ebb 1;"};
        int[] to = {13, 7, 13, 15, 16, 10};
        int[] place = {13, 7, 13, 15, 16, 8};
        for (int i = 0; i < whole.length; i++) {
            Due.tell(x, whole[i]);
            x.end(to[i]);
            due.is("river() of " + whole[i] + " up to " + to[i], x.river(), -1);
            due.is("fault(0)", x.fault(0), 1);
            due.is("fault(1)", x.fault(1), place[i]);
        }
        Due.tell(x, "river 3;ebb 1;");
        x.end(8);
        due.is("river() of river 3;ebb 1; up to 8", x.river(), 1);
        String[] questions = {"total 12", "total 1+1", "most level   ", "often all or all"};
        int[] upTo = {7, 7, 10, 9};
        int[] want = {10, 10, 9, 10};
        for (int i = 0; i < questions.length; i++) {
            Due.tell(x, questions[i]);
            x.end(upTo[i]);
            due.is("ask() of " + questions[i] + " up to " + upTo[i], x.ask(), want[i]);
        }
        Due.tell(x, "total 1       ");
        x.end(5);
        due.is("ask() of total", x.ask(), SiltShare.NOTHING);
        due.is("fault(1)", x.fault(1), 5);
    }

    private static void tapeGoes(Due due) {
        due.holds("Promise 4", "The tape (it goes) is THE RIVER: how many STATEMENTS;");
        SiltShare x = new SiltShare();
        Due.tell(x, "river 3;ebb 1;");
        due.is("river()", x.river(), 2);
        due.is("the tape went", x.end(1), false);
        due.is("feed", x.feed(0, 0, 0, 0, 0), 20);
        due.is("river() with a FAULT", x.river(), -1);
        due.is("the tape went", x.end(1), false);
        due.is("river() of a tape that went", x.river(), -1);
        due.is("fault(1)", x.fault(1), 0);
        Due.tell(x, "river 3;");
        due.is("river()", x.river(), 1);
    }

    private static void allStays(Due due) {
        due.holds("Promise 4", "NONE, refused (1), with a FAULT (all stays; one without a STATEMENT has FAULT 1 at its length).");
        due.fault(1, "|");
        due.fault(1, " |");
        due.fault(1, "   \n|");
        due.fault(1, Due.times("\n", 1600) + "|");
        String text = "river 4;slope 2 at 1;owner a;colour c;bank b of a colour c at 0 holds 50 size 9;cut 20;settle 20;rises 7;joins 8;ebb 5;";
        SiltShare x = Due.river(text);
        due.is("flood(1)", x.flood(1), 20);
        x.stone(1, true);
        x.seed(77);
        Due.tellNumbers(x, 19, 0, 0, 0);
        due.is("find()", x.find(), true);
        int[] then = Due.imageOf(x);
        // the FAULT stands behind all that would be other ones
        Due.tell(x, "river 5;slope 3 at 1;owner q;owner r;colour s;colour t;bank u of r colour t at 4 holds 9 size 1;cut 1;settle 0;rises 1;joins 1;"
            + "ebb 50;bank a of r colour t at 4 holds 9 size 1;oops");
        due.is("river() with a FAULT", x.river(), -1);
        due.is("status(1)", x.status(1), 1);
        int[] want = {4, 1, 1, 1, 7, 8, 5, 1, 1, 30, 19, 1, 2};
        for (int what = 0; what < want.length; what++) {
            due.is("has(" + what + ")", x.has(what), want[what]);
        }
        due.row("the image", Due.imageOf(x), then);
        due.is("letter(0, 0, 0)", x.letter(0, 0, 0), 1);
        due.is("letter(2, 0, 0)", x.letter(2, 0, 0), 2);
        due.is("reach(1, 0)", x.reach(1, 0), 2);
        due.is("bank(0, 2)", x.bank(0, 2), 0);
        due.is("bank(0, 3)", x.bank(0, 3), 9);
        due.is("cuts(0, 1)", x.cuts(0, 1), 20);
        due.is("settles(0, 0, 1)", x.settles(0, 0, 1), 20);
        due.is("levels()", x.levels(), 1);
        due.is("undo()", x.undo(), true);
        SiltShare y = Due.river(text);
        y.flood(1);
        y.seed(77);
        due.is("years(5) by the seed that stays", x.years(5), y.years(5));
        due.row("behind them", Due.imageOf(x), Due.imageOf(y));
    }

    private static void anew(Due due) {
        due.holds("Promise 4", "Without one it is YEAR 0, nothing lies anywhere, there are no stones, nothing is FOUND or can be undone; the seed stays.");
        String text = START + "bank b of a colour c at 0 holds 50 size 9;cut 20;settle 6;";
        SiltShare x = Due.river(text);
        x.flood(1);
        x.flood(1);
        for (int r = 0; r < 3; r++) {
            x.stone(r, true);
        }
        Due.tellNumbers(x, 12, 12, 12);
        due.is("find()", x.find(), true);
        due.is("has(11)", x.has(11), 4);
        Due.tell(x, text);
        due.is("river() once more", x.river(), 6);
        int[] same = {3, 1, 1, 1, 10, 20, 0, 0, 0, 50, 0, 0, 0};
        for (int what = 0; what < same.length; what++) {
            due.is("has(" + what + ")", x.has(what), same[what]);
        }
        for (int r = 0; r < 3; r++) {
            due.is("lies(" + r + ", 0)", x.lies(r, 0), 0);
            due.is("reach(" + r + ", 1)", x.reach(r, 1), 0);
        }
        due.is("bank(0, 6)", x.bank(0, 6), 0);
        due.is("levels()", x.levels(), -1);
        due.is("undo()", x.undo(), false);
        x.flood(1);
        due.is("undo() of what came since", x.undo(), true);
        due.is("undo() no more", x.undo(), false);
        Due.tell(x, "river 3;");
        due.is("river() of nobody", x.river(), 1);
        int[] want = {3, 0, 0, 0, 10, 20, 0, 0, 0, 0, 0, 0, 0};
        for (int what = 0; what < want.length; what++) {
            due.is("has(" + what + ")", x.has(what), want[what]);
        }
        due.is("letter(0, 0, 0)", x.letter(0, 0, 0), -1);
        due.is("lies(0, 0)", x.lies(0, 0), -1);
        due.is("cuts(0, 1)", x.cuts(0, 1), -1);
        asNew(due);
    }

    private static final String GREAT = "river 8;slope 9 at 0;slope 8 at 1;slope 7 at 3;owner a;owner b;owner d;colour c;colour e;"
        + "bank u of a colour c at 0 holds 99 size 9;bank v of b colour e at 1 holds 98 size 8;bank w of d colour c at 2 holds 97 size 7;"
        + "bank x of d colour e at 0 holds 96 size 9;cut 20;settle 5;ebb 9;rises 3;joins 4;";
    private static final String SMALL = "river 3;owner p;owner q;colour r;bank s of p colour r at 0 holds 60 size 2;cut level*5;settle 2+stones;";

    /** All of a RIVER with more of everything, and of one behind it, is gone. */
    private static void asNew(Due due) {
        SiltShare x = Due.river(GREAT);
        use(x);
        Due.tell(x, GREAT);
        x.river();
        use(x);
        Due.tell(x, SMALL);
        due.is("river()", x.river(), 7);
        SiltShare y = Due.river(SMALL);
        int[] none = Due.imageOf(y);
        Due.tellBytes(x, none);
        due.is("on() of its first image", x.on(), true);
        for (int level = 0; level < 10; level += 3) {
            for (int what = 0; what < 4; what++) {
                due.is("would(" + level + ", " + what + ")", x.would(level, what), y.would(level, what));
            }
            for (int share = 1; share < 1000; share += 333) {
                due.is("mine(1, 2, " + level + ", " + share + ", -1)", x.mine(1, 2, level, share, -1), y.mine(1, 2, level, share, -1));
                due.is("mine(0, 2, " + level + ", " + share + ", -1)", x.mine(0, 2, level, share, -1), y.mine(0, 2, level, share, -1));
            }
            due.is("until(0, 2, " + level + ")", x.until(0, 2, level), y.until(0, 2, level));
        }
        for (String question : new String[] {"total level", "total taken", "total sea", "total lies 3", "total lies 2", "total holds 1", "total holds 0"}) {
            Due.tell(x, question);
            Due.tell(y, question);
            due.is("ask() of " + question, x.ask(), y.ask());
        }
        due.row("the image", Due.imageOf(x), none);
        due.is("flood(4)", x.flood(4), y.flood(4));
        due.row("the image behind a FLOOD", Due.imageOf(x), Due.imageOf(y));
    }

    private static void use(SiltShare x) {
        for (int r = 0; r < 8; r++) {
            x.stone(r, true);
        }
        x.flood(9);
        x.flood(3);
        x.until(2, 7, 9);
        x.mine(2, 7, 9, 999, -1);
        x.would(9, 0);
        Due.tell(x, "total sea+taken+lies 3+holds 3");
        x.ask();
    }

    /** The same YEARS with and without a river() behind seed(). */
    private static void seedStays(Due due) {
        String text = "river 3;owner a;colour c;bank b of a colour c at 0 holds 99 size 9;cut level;settle level;";
        SiltShare x = Due.river(text);
        x.seed(4242);
        Due.tell(x, text);
        due.is("river()", x.river(), 6);
        SiltShare y = Due.river(text);
        y.seed(4242);
        for (int i = 0; i < 5; i++) {
            due.is("years(1) by a seed that stays", x.years(1), y.years(1));
        }
        // one that YEARS moved stays, too
        Due.tell(x, text);
        x.river();
        for (int i = 0; i < 5; i++) {
            y.undo();
        }
        for (int i = 0; i < 5; i++) {
            due.is("years(1) by a seed that stays", x.years(1), y.years(1));
        }
    }

    private static void faults(Due due) {
        due.holds("Promise 5", "Of the latest river() or ask(): its FAULT (what 0; 0 without, and ahead of any), its place (1; NONE without).");
        SiltShare x = new SiltShare();
        due.is("fault(0) ahead of any", x.fault(0), 0);
        due.is("fault(1) ahead of any", x.fault(1), -1);
        told(due, x, "river 3;owner a;owner a;", 3, 22);
        told(due, x, "river 3;", 0, -1);
        told(due, x, "", 1, 0);
        told(due, x, "river 2;", 2, 6);
        told(due, x, "river 3;ebb 1;", 0, -1);
        due.faultOfQuestion(x, "total 1+", 1, 8);
        told(due, x, "river 3;", 0, -1);
        due.faultOfQuestion(x, "total (((((((", 4, 12);
        due.answer(x, "total 1", 10);
        told(due, x, "river 3;cut 1;cut", 5, 14);
        due.answer(x, "total 1", 10);
        told(due, x, "river 3;cut 1;cut", 5, 14);
        x.flood(1);
        x.flood(99);
        x.image();
        x.on();
        x.find();
        due.is("fault(0) stays", x.fault(0), 5);
        due.is("fault(1) stays", x.fault(1), 14);
        due.holds("Promise 5", "NONE for another what.");
        for (int what : new int[] {-1, 2, 3, Integer.MIN_VALUE, Integer.MAX_VALUE}) {
            due.is("fault(" + what + ")", x.fault(what), -1);
        }
    }

    private static void told(Due due, SiltShare x, String text, int fault, int place) {
        Due.tell(x, text);
        x.river();
        due.is("fault(0) of " + text, x.fault(0), fault);
        due.is("fault(1) of " + text, x.fault(1), place);
    }
}
