/** What term IV tells of QUESTIONS and their FAULTS, and promise 30. */
public final class QuestionTests {
    private static final String IV = "Term IV";
    private static final String RIVER = "river 3;owner a;colour c;bank u of a colour c at 0 holds 90 size 4;"
        + "bank v of a colour c at 2 holds 50 size 9;cut level*10;settle 10;ebb 50;";

    public static void main(String[] args) {
        Due due = new Due("QuestionTests");
        firstAndLast(due);
        often(due);
        totals(due);
        mostAndLeast(due);
        ors(due);
        nots(due);
        signs(due);
        sums(due);
        parts(due);
        numbersThereAreNot(due);
        wereItNow(due);
        blanks(due);
        faultsOfBytes(due);
        faultsOfWords(due);
        faultsOfSums(due);
        faultsBehind(due);
        faultsAtTheEnd(due);
        faultsOfNumbers(due);
        faultsOfDepth(due);
        depthOfNot(due);
        depthOfLies(due);
        answers(due);
        noAnswers(due);
        without(due);
        due.finish();
    }

    private static void firstAndLast(Due due) {
        due.holds(IV, "first TEST, last TEST (the first, the last LEVEL in which it holds)");
        due.answer(RIVER, "first level>3", 4);
        due.answer(RIVER, "last level<7", 6);
        due.answer(RIVER, "first all", 0);
        due.answer(RIVER, "last all", 9);
        due.answer(RIVER, "first level=0", 0);
        due.answer(RIVER, "last level=0", 0);
        due.answer(RIVER, "first level=9", 9);
        due.answer(RIVER, "last level=9", 9);
        due.answer(RIVER, "first level=3 or level=5", 3);
        due.answer(RIVER, "last level=3 or level=5", 5);
        due.holds("Promise 30", "NONE of first, last, when its TEST holds in none;");
        due.answer(RIVER, "first level>9", -1);
        due.answer(RIVER, "last level>9", -1);
        due.answer(RIVER, "first not all", -1);
        due.answer(RIVER, "last not all", -1);
        due.answer(RIVER, "often not all", 0);
    }

    private static void often(Due due) {
        due.holds(IV, "often TEST (in how many)");
        due.answer(RIVER, "often level>3", 6);
        due.answer(RIVER, "often level>9", 0);
        due.answer(RIVER, "often all", 10);
        due.answer(RIVER, "often level=9", 1);
        due.answer(RIVER, "often level=0", 1);
    }

    private static void totals(Due due) {
        due.holds(IV, "total SUM (of all together, not held)");
        due.answer(RIVER, "total level", 45);
        due.answer(RIVER, "total 0", 0);
        due.answer(RIVER, "total 9999", 99990);
        due.answer(RIVER, "total 0-1", -10);
        due.answer(RIVER, "total 9999*9999", 10000000);
        due.answer(RIVER, "total 0-9999*9999", -10000000);
        due.answer(RIVER, "total 1000*1000-level", 9999955);
        due.answer(RIVER, "total 9999*100+99", 9999990);
        // many and long ones, one behind the other
        SiltShare x = Due.river(RIVER);
        for (int i = 0; i < 20; i++) {
            due.answer(x, "total " + i + Due.times("+1", 100), 1000 + 10 * i);
        }
        due.answer(RIVER, "total 1" + Due.times("+1", 796), 7970);
    }

    private static void mostAndLeast(Due due) {
        due.holds(IV, "most SUM, least SUM (the greatest, the least of all)");
        due.answer(RIVER, "most level", 9);
        due.answer(RIVER, "least level", 0);
        due.answer(RIVER, "least 3-level", -6);
        due.answer(RIVER, "most 3-level", 3);
        due.answer(RIVER, "most 0-5", -5);
        due.answer(RIVER, "least 0-5", -5);
        due.answer(RIVER, "most level*(9-level)", 20);
        due.answer(RIVER, "least (level-4)*(level-4)", 0);
        due.answer(RIVER, "most 0-9999*9999", -1000000);
        due.answer(RIVER, "least 0-9999*9999", -1000000);
        due.answer(RIVER, "least 9999*9999", 1000000);
        due.answer(RIVER, "most 9999*9999", 1000000);
        due.holds("Term I", "each sum, difference, product above 10 to the 6 is that, below -10 to the 6 likewise.");
        due.answer(RIVER, "most 9999*100+99", 999999);
        due.answer(RIVER, "most 9999*100+100", 1000000);
        due.answer(RIVER, "most 9999*100+101", 1000000);
        due.answer(RIVER, "most 9999*100-(0-99)", 999999);
        due.answer(RIVER, "most 9999*100-(0-101)", 1000000);
        due.answer(RIVER, "most 1000*1000", 1000000);
        due.answer(RIVER, "most 1001*1000", 1000000);
        due.answer(RIVER, "most 999*1001", 999999);
        due.answer(RIVER, "least 0-9999*100-99", -999999);
        due.answer(RIVER, "least 0-9999*100-100", -1000000);
        due.answer(RIVER, "least 0-9999*100-101", -1000000);
        due.answer(RIVER, "least 0-9999*100+(0-101)", -1000000);
        due.answer(RIVER, "least (0-1000)*1000", -1000000);
        due.answer(RIVER, "least (0-1001)*1000", -1000000);
        due.answer(RIVER, "least (0-999)*1001", -999999);
        due.answer(RIVER, "most 9999*9999-1", 999999);
        due.answer(RIVER, "most (0-9999)*9999/3", -333334);
        due.answer(RIVER, "most 9999*9999/(0-3)", -333334);
        due.answer(RIVER, "most 9999*9999*(9999*9999)", 1000000);
        due.answer(RIVER, "most (0-9999)*9999*(9999*9999)", -1000000);
    }

    private static void ors(Due due) {
        due.holds(IV, "TEST: BOTH { or BOTH }. BOTH: FACT { and FACT }.");
        due.answer(RIVER, "often level<3 or level>7", 5);
        due.answer(RIVER, "often level>3 and level<7", 3);
        due.answer(RIVER, "often level<2 or level>3 and level<7", 5);
        due.answer(RIVER, "often level>3 and level<7 or level<2", 5);
        due.answer(RIVER, "often [level<2 or level>3]and level<7", 5);
        due.answer(RIVER, "often level>3 and[level<2 or level<7]", 3);
        due.answer(RIVER, "often all and all or not all", 10);
        due.answer(RIVER, "often not all and all or all", 10);
        due.answer(RIVER, "often not all or not all or not all or not all or not all or not all or not all or all", 10);
        due.answer(RIVER, "often all and all and all and all and all and all and all and not all", 0);
        due.answer(RIVER, "often level=1 or level=3 or level=5 or level=7", 4);
        due.answer(RIVER, "often level>1 and level>3 and level>5", 4);
    }

    private static void nots(Due due) {
        due.holds(IV, "FACT: not FACT; [ TEST ] ; all;");
        due.answer(RIVER, "often not level=3", 9);
        due.answer(RIVER, "often not not level=3", 1);
        due.answer(RIVER, "often not not not not not not level=3", 1);
        due.answer(RIVER, "often not level<2 and level<7", 5);
        due.answer(RIVER, "often not[level<2 and level<7]", 8);
        due.answer(RIVER, "often not all", 0);
        due.answer(RIVER, "often[all]", 10);
        due.answer(RIVER, "often[[[[[[all]]]]]]", 10);
        due.answer(RIVER, "often [all] and [all] and [all] and [all] and [all] and [all] and [all]", 10);
        due.answer(RIVER, "often not[not[level=3]]", 1);
    }

    private static void signs(Due due) {
        due.holds(IV, "SUM SIGN SUM, SIGN < or > or = .");
        due.answer(RIVER, "often level=3", 1);
        due.answer(RIVER, "often level<3", 3);
        due.answer(RIVER, "often level>3", 6);
        due.answer(RIVER, "often 3<level", 6);
        due.answer(RIVER, "often 3>level", 3);
        due.answer(RIVER, "often 3=level", 1);
        due.answer(RIVER, "often level<level", 0);
        due.answer(RIVER, "often level>level", 0);
        due.answer(RIVER, "often level=level", 10);
        due.answer(RIVER, "often level*2<level+3", 3);
        due.answer(RIVER, "first (level)=(2)", 2);
        due.answer(RIVER, "often 0-1<0", 10);
        due.answer(RIVER, "often 0-1>0", 0);
        due.answer(RIVER, "often 9999*9999=1000*1000", 10);
    }

    private static void sums(Due due) {
        due.holds(IV, "SUM as in I, but PART: N; level; taken; sea; lies PART; holds PART; ( SUM ) ; min ( SUM , SUM ) ; max ( SUM , SUM ) .");
        due.answer(RIVER, "first min(level,4)=max(3,4)", 4);
        due.answer(RIVER, "often level/2=1", 2);
        due.answer(RIVER, "often (level-5)/2=0-1", 2);
        due.answer(RIVER, "total 7/0", 0);
        due.answer(RIVER, "total 7/level", 7 + 3 + 2 + 1 + 1 + 1 + 1);
        due.answer(RIVER, "most lies 1+1", 11);
        due.answer(RIVER, "most lies(1+1)", 20);
        due.answer(RIVER, "most lies 2*2", 40);
        due.answer(RIVER, "total lies level", 10);
        // by LEVEL 1 it is lies 0, from 2 on lies 10
        due.answer(RIVER, "total lies lies 1", 10);
        due.answer(RIVER, "total holds lies 1", 90 + 80);
        due.answer(RIVER, "total lies min(0,level)", 90);
        due.answer(RIVER, "total lies max(0,1)", 80);
        due.answer(RIVER, "most 0009", 9);
        due.answer(RIVER, "most 9999", 9999);
    }

    private static void parts(Due due) {
        due.holds(IV, "(The LEVEL; grains it would cut; that would go to the SEA; that would lie in the REACH of that number, that the BANK of that number "
            + "would hold then;");
        // taken: u 10 .. 90, v 10 .. 50 by LEVELS 1 .. 9
        due.answer(RIVER, "most taken", 140);
        due.answer(RIVER, "least taken", 0);
        due.answer(RIVER, "total taken", 450 + 10 + 20 + 30 + 40 + 50 * 5);
        due.answer(RIVER, "first taken=100", 5);
        // u lets 10 fall in each of three REACHES, v in 2 alone
        due.answer(RIVER, "most sea", 60 + 40);
        due.answer(RIVER, "least sea", 0);
        due.answer(RIVER, "first sea>0", 2);
        due.answer(RIVER, "total lies 0", 90);
        due.answer(RIVER, "total lies 1", 80);
        due.answer(RIVER, "total lies 2", 90 + 70);
        due.answer(RIVER, "most holds 0", 90);
        due.answer(RIVER, "least holds 0", 0);
        due.answer(RIVER, "most holds 1", 50);
        due.answer(RIVER, "total holds 1", 50 + 40 + 30 + 20 + 10);
    }

    private static void numbersThereAreNot(Due due) {
        due.holds(IV, "0 of numbers that there are not.)");
        SiltShare x = Due.river(RIVER);
        due.answer(x, "most lies 3", 0);
        due.answer(x, "most lies(0-1)", 0);
        due.answer(x, "most lies 7", 0);
        due.answer(x, "most lies 8", 0);
        due.answer(x, "most lies 9", 0);
        due.answer(x, "most lies 9999", 0);
        due.answer(x, "most lies(9999*9999)", 0);
        due.answer(x, "most lies(0-9999*9999)", 0);
        due.answer(x, "most holds 2", 0);
        due.answer(x, "most holds 9", 0);
        due.answer(x, "most holds 10", 0);
        due.answer(x, "most holds 9999", 0);
        due.answer(x, "most holds(0-1)", 0);
        due.answer(x, "most holds(0-9999*9999)", 0);
        // not of a river that was ahead either
        Due.tell(x, "river 8;owner a;colour c;" + "bank u of a colour c at 7 holds 99 size 9;bank v of a colour c at 6 holds 98 size 9;bank w of a colour c at 5 holds 97 size 9;"
            + "cut 9;settle 9;");
        x.river();
        due.answer(x, "most lies 7", 9);
        due.answer(x, "most holds 2", 97);
        Due.tell(x, "river 3;owner a;colour c;bank u of a colour c at 0 holds 50 size 9;cut 9;settle 9;");
        x.river();
        due.answer(x, "most lies 7", 0);
        due.answer(x, "most lies 3", 0);
        due.answer(x, "most holds 2", 0);
        due.answer(x, "most holds 1", 0);
        due.answer(x, "most holds 0", 50);
        Due.tell(x, "river 3;");
        x.river();
        due.answer(x, "most holds 0+lies 0+taken+sea", 0);
        due.answer(x, "total level", 45);
        due.answer("river 3;", "total level", 45);
    }

    private static void wereItNow(Due due) {
        due.holds(IV, "A QUESTION is a text, of FLOODS of all LEVELS 0 .. 9, each were it now");
        SiltShare x = Due.river(RIVER.replace("cut level*10", "cut level*10+year+stones*3"));
        due.answer(x, "least taken", 0);
        due.answer(x, "total taken", 450 + 10 + 20 + 30 + 40 + 50 * 5);
        x.flood(1);
        // 10 of u and of v are cut, 10 each settle, 5 of each go by INTEREST
        due.is("lies(0, 0)", x.lies(0, 0), 5);
        due.answer(x, "least lies 0", 5);
        due.answer(x, "most lies 0", 15);
        due.answer(x, "most holds 0", 80);
        due.answer(x, "least holds 0", 0);
        // in YEAR 1, by a stone in 0
        x.stone(0, true);
        due.answer(x, "first taken=14+11", 1);
        due.answer(x, "first taken=24+21", 2);
        due.answer(x, "least sea", 0);
        due.is("nothing has changed", x.has(7), 1);
        due.is("nothing has changed", x.has(10), 10);
        due.is("nothing has changed", x.has(12), 2);
    }

    private static void blanks(Due due) {
        due.holds("Term I", "Blanks (10, 32) are where one likes (words and numbers side by side need one).");
        due.answer(RIVER, " \n total\n \nlevel \n", 45);
        due.answer(RIVER, "often[level<3]or[not[all]]", 3);
        due.answer(RIVER, "often [ level < 3 ] or [ not [ all ] ] ", 3);
        due.answer(RIVER, "total(1)", 10);
        due.answer(RIVER, "total\n1", 10);
        due.answer(RIVER, "total " + Due.times(" ", 1593) + "1", 10);
        due.fault(RIVER, 1, "total|1");
        due.fault(RIVER, 1, "|totallevel");
        due.fault(RIVER, 1, "often level<3|or all");
        due.fault(RIVER, 1, "often level<0|or all");
        due.fault(RIVER, 1, "often level<9|or all");
        due.fault(RIVER, 1, "often level<9|and all");
        due.fault(RIVER, 1, "often |notall");
        due.fault(RIVER, 1, "often |alland all");
        due.fault(RIVER, 1, "often all or|1=1");
        due.fault(RIVER, 1, "often all and|1=1");
        due.fault(RIVER, 1, "often not|1=1");
        due.fault(RIVER, 1, "total lies|2");
        due.fault(RIVER, 1, "total holds|2");
        due.fault(RIVER, 1, "total |liestaken");
        due.fault(RIVER, 1, "total 1|level");
        due.fault(RIVER, 1, "total|\t1");
    }

    private static void faultsOfBytes(Due due) {
        due.holds(IV, "Its FAULTS: 1 as in I (an unknown word at its first byte; what stands behind it, too);");
        due.fault(RIVER, 1, "|oftener all");
        due.fault(RIVER, 1, " |never all");
        due.fault(RIVER, 1, "|ofte all");
        due.fault(RIVER, 1, "|Total 1");
        due.fault(RIVER, 1, "|1");
        due.fault(RIVER, 1, "|level");
        due.fault(RIVER, 1, "|;");
        due.fault(RIVER, 1, "|(total 1)");
        due.fault(RIVER, 1, "often |alls");
        due.fault(RIVER, 1, "often level<|=3");
        due.fault(RIVER, 1, "often level |3");
        due.fault(RIVER, 1, "often level|!3");
        due.fault(RIVER, 1, "often level<3|<4");
        due.fault(RIVER, 1, "often all or |and");
        due.fault(RIVER, 1, "often all or |or all");
        due.fault(RIVER, 1, "often |or all");
        due.fault(RIVER, 1, "often |and all");
        due.fault(RIVER, 1, "often [all|)");
        due.fault(RIVER, 1, "often [|]");
        due.fault(RIVER, 1, "often (|all)");
        due.fault(RIVER, 1, "often (1|<2)");
        due.fault(RIVER, 1, "often [1|]");
        due.fault(RIVER, 1, "often [1=1|,");
        due.fault(RIVER, 1, "often 1=|all");
        due.fault(RIVER, 1, "often 1=|not 1");
        due.fault(RIVER, 1, "often 1=|[1]");
        due.fault(RIVER, 1, "often not |or");
        for (int c = 128; c < 256; c++) {
            due.faultOfQuestion(Due.river(RIVER), "total 1" + (char) c, 1, 7);
        }
    }

    private static void faultsOfWords(Due due) {
        due.holds(IV, "(an unknown word at its first byte;");
        for (String word : new String[] {"flow", "size", "held", "stones", "year", "place", "u", "a", "river", "all", "not", "first", "lie", "hold", "seas",
            "takens", "mins", "ma", "levels", "abcdefghij"}) {
            due.fault(RIVER, 1, "total |" + word);
            due.fault(RIVER, 1, "total 1+|" + word + " 1");
            due.fault(RIVER, 1, "often 1=|" + word + "(1)");
        }
        for (String word : new String[] {"flow", "size", "held", "stones", "year", "place", "u", "a", "river", "first", "lie", "hold", "seas", "takens",
            "nots", "al", "or", "and", "abcdefghij"}) {
            due.fault(RIVER, 1, "often |" + word);
            due.fault(RIVER, 1, "often not |" + word + " all");
            due.fault(RIVER, 1, "often all and |" + word);
        }
    }

    private static void faultsOfSums(Due due) {
        due.holds("Term I", "1 the first byte with which no such text goes on");
        due.fault(RIVER, 1, "total |all");
        due.fault(RIVER, 1, "total |not 1");
        due.fault(RIVER, 1, "total |[1]");
        due.fault(RIVER, 1, "total level|<3");
        due.fault(RIVER, 1, "total |-1");
        due.fault(RIVER, 1, "total lies |+1");
        due.fault(RIVER, 1, "total lies |)");
        due.fault(RIVER, 1, "total holds |[0]");
        due.fault(RIVER, 1, "total (|)");
        due.fault(RIVER, 1, "total 1+|)");
        due.fault(RIVER, 1, "total min(1|;2)");
        due.fault(RIVER, 1, "total min(1|)");
        due.fault(RIVER, 1, "total min(1,2|,3)");
        due.fault(RIVER, 1, "total min |1");
        due.fault(RIVER, 1, "total max|[1,2]");
        due.fault(RIVER, 1, "total (1|]");
        due.fault(RIVER, 1, "often (1|]=1");
    }

    private static void faultsBehind(Due due) {
        due.holds(IV, "what stands behind it, too)");
        due.fault(RIVER, 1, "often all |x");
        due.fault(RIVER, 1, "often all|;");
        due.fault(RIVER, 1, "often all |all");
        due.fault(RIVER, 1, "often all|\t");
        due.fault(RIVER, 1, "often all|]");
        due.fault(RIVER, 1, "often all \n |)");
        due.fault(RIVER, 1, "often [all]|]");
        due.fault(RIVER, 1, "often all |not all");
        due.fault(RIVER, 1, "often 1=1 |=1");
        due.fault(RIVER, 1, "total 1|)");
        due.fault(RIVER, 1, "total 1 |1");
        due.fault(RIVER, 1, "total 1 |total 1");
        due.fault(RIVER, 1, "total 1|;");
        due.fault(RIVER, 1, "total 1 |or all");
        due.fault(RIVER, 1, "total " + Due.times(" ", 1592) + "1|)");
        due.answer(RIVER, "total 1 \n", 10);
    }

    private static void faultsAtTheEnd(Due due) {
        due.holds("Term I", "at the text's length, if it ends too soon);");
        for (String text : new String[] {"", "  ", "often", "often ", "often level", "often level<", "often level<3 or", "often level<3 and ", "often not",
            "often [all", "often [", "first", "last\n", "total", "most ", "least", "total 1+", "total (1", "total (", "total min", "total min(", "total min(1",
            "total min(1,", "total min(1,2", "total lies", "total holds "}) {
            due.fault(RIVER, 1, text + "|");
        }
        due.fault(RIVER, 1, Due.times(" ", 1600) + "|");
        due.fault(RIVER, 1, "total " + Due.times("1+", 797) + "|");
    }

    private static void faultsOfNumbers(Due due) {
        due.holds("Term I", "where a number is asked, a 5th digit at itself;");
        due.fault(RIVER, 1, "total 1234|5");
        due.fault(RIVER, 1, "total 0000|0");
        due.fault(RIVER, 1, "total lies 0000|0");
        due.fault(RIVER, 1, "often 1=1000|0");
        due.fault(RIVER, 1, "total 1+(9999|9)");
    }

    private static void faultsOfDepth(Due due) {
        due.holds(IV, "4 the 7th of ( [ not lies holds that is open at once (not until its FACT, lies and holds until their PART ends), at it.");
        due.answer(RIVER, "total ((((((1))))))", 10);
        due.answer(RIVER, "often [[[[[[all]]]]]]", 10);
        due.answer(RIVER, "often not not not not not not all", 10);
        due.answer(RIVER, "total lies lies lies lies lies lies 9", 90);
        due.answer(RIVER, "total holds holds holds holds holds holds 9", 450);
        due.answer(RIVER, "total min(min(min(min(min(min(1,2),2),2),2),2),2)", 10);
        due.fault(RIVER, 4, "total ((((((|(1)))))))");
        due.fault(RIVER, 4, "often [[[[[[|[all");
        due.fault(RIVER, 4, "often not not not not not not |not all");
        due.fault(RIVER, 4, "total lies lies lies lies lies lies |lies 9");
        due.fault(RIVER, 4, "total holds holds holds holds holds holds |holds 9");
        due.fault(RIVER, 4, "total min(min(min(min(min(min(max|(");
        due.fault(RIVER, 4, "total min(1,min(1,min(1,min(1,min(1,min(1,|(");
        due.fault(RIVER, 4, "total holds holds holds lies lies lies |holds 9");
        due.fault(RIVER, 4, "often [[[[[[|not all");
        due.fault(RIVER, 4, "often [[[[[[|lies 1=1");
        due.fault(RIVER, 4, "often [[[[[[|holds 1=1");
        due.fault(RIVER, 4, "often [[[[[[|(1)=1");
        due.fault(RIVER, 4, "often [[[[[[min|(1,2)");
        due.fault(RIVER, 4, "often [[[[[[max \n |(1,2)");
        due.fault(RIVER, 4, "often not[not[(lies|(1");
        due.fault(RIVER, 1, "total ((((((1|(");
        due.fault(RIVER, 1, "often [[[[[[min|;");
        due.answer(RIVER, "total ((((((1))))))+((((((1))))))", 20);
        due.answer(RIVER, "often [[[[[[all]]]]]]and[[[[[[all]]]]]]or[[[[[[all]]]]]]", 10);
        due.fault(RIVER, 4, "often [[[[[[all]]]]]]and[[[[[[|[all");
        due.fault(RIVER, 4, "often [[[[[[all]or[all]]]]]]and[[[[[[|(");
    }

    private static void depthOfNot(Due due) {
        due.holds(IV, "(not until its FACT, lies and holds until their PART ends)");
        // not is open until its FACT ends, behind the whole of what it tells
        due.answer(RIVER, "often not not not not not min(1,1)=2", 10);
        due.fault(RIVER, 4, "often not not not not not 1=min(1,|(1))");
        due.fault(RIVER, 4, "often not not not not not not 1=|(1)");
        due.fault(RIVER, 4, "often not not not not not not 1=1+|(1)");
        due.fault(RIVER, 4, "often not not not not not not 1=|lies 1");
        due.answer(RIVER, "often not not not not not not 1=1 and min(1,1)=1", 10);
        due.answer(RIVER, "often not not not not not not 1=1 and not not not not not not 1=1", 10);
        due.answer(RIVER, "often not not not not not not 1=1 or [[[[[[all]]]]]]", 10);
        due.fault(RIVER, 4, "often not not not not not not 1=1 and not not not not not not |not 1=1");
        due.answer(RIVER, "often not[not[(lies 9)=0]]", 10);
        due.answer(RIVER, "often not[not[lies 9=0]]and not[not[lies 9=0]]", 10);
        due.fault(RIVER, 4, "often not[not[not[|(1)=1]]]");
        due.answer(RIVER, "often not[not[not[1=2]]]", 10);
    }

    private static void depthOfLies(Due due) {
        due.holds(IV, "lies and holds until their PART ends)");
        due.answer(RIVER, "often [[[[[lies 9=0 and holds 9=0 and min(1,2)=1 and not all or not all or all]]]]]", 10);
        due.answer(RIVER, "often [[[[[lies 9+lies 9*lies 9=0]]]]]", 10);
        due.answer(RIVER, "often [[[[[holds 9+holds 9*holds 9=0]]]]]", 10);
        due.answer(RIVER, "total (((((lies 9+(1))))))", 10);
        due.answer(RIVER, "total (((((lies 9+lies 9+holds 9+lies 9+lies 9+lies 9+lies 9+(1))))))", 10);
        due.fault(RIVER, 4, "total (((((lies |(1))))))");
        due.fault(RIVER, 4, "total (((((lies |lies 1)))))");
        due.fault(RIVER, 4, "total (((((holds |lies 1)))))");
        due.fault(RIVER, 4, "total (((((lies min|(1,2))))))");
        due.answer(RIVER, "total ((((lies (9+1)))))", 0);
    }

    private static void answers(Due due) {
        due.holds("Promise 30", "The tape (it goes) is a QUESTION: its answer;");
        SiltShare x = Due.river(RIVER);
        int[] then = Due.imageOf(x);
        due.answer(x, "total 1", 10);
        due.is("the tape goes", x.end(1), false);
        due.faultOfQuestion(x, "", 1, 0);
        due.answer(x, "most level", 9);
        due.is("the tape goes", x.end(1), false);
        due.answer(x, "total level", 45);
        due.answer(x, "total level", 45);
        due.row("the image", Due.imageOf(x), then);
        due.is("nothing is an ACT", x.has(12), 0);
    }

    private static void noAnswers(Due due) {
        due.holds("Promise 30", "NOTHING with a FAULT");
        SiltShare x = Due.river(RIVER);
        due.is("NOTHING", SiltShare.NOTHING, -1000000000000000L);
        due.fault(x, 1, "total|");
        due.is("the tape goes", x.end(1), false);
        due.fault(x, 1, "total 1|;");
        due.fault(x, 4, "total ((((((|(");
        due.answer(x, "total ((((((1))))))", 10);
        due.fault(x, 1, "often not[not[not[1|");
        due.answer(x, "often not[not[not[1=1]]]", 0);
        due.is("a FAULT of ask() is no refusal", x.status(1), 0);
        due.is("has(0)", x.has(0), 3);
    }

    private static void without(Due due) {
        due.holds("Promise 30", "or (the tape goes, nothing else is done, fault() stays) without a river.");
        SiltShare x = new SiltShare();
        Due.tell(x, "total 1");
        due.is("ask() without a river", x.ask(), SiltShare.NOTHING);
        due.is("fault(0) stays", x.fault(0), 0);
        due.is("fault(1) stays", x.fault(1), -1);
        due.is("the tape goes", x.end(1), false);
        Due.tell(x, "river 2;");
        x.river();
        Due.tell(x, "total 1");
        due.is("ask() without a river", x.ask(), SiltShare.NOTHING);
        due.is("fault(0) stays", x.fault(0), 2);
        due.is("fault(1) stays", x.fault(1), 6);
        due.is("the tape goes", x.end(1), false);
        due.is("status(1)", x.status(1), 1);
        Due.tell(x, "oops");
        due.is("ask() of a FAULT without a river", x.ask(), SiltShare.NOTHING);
        due.is("fault(0) stays", x.fault(0), 2);
        Due.tell(x, RIVER);
        x.river();
        due.is("fault(0)", x.fault(0), 0);
        due.answer(x, "total 1", 10);
    }
}
