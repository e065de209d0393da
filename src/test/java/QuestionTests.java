/** Promise 30: QUESTIONS and their FAULTS. */
public final class QuestionTests {
    private static final String RIVER = "river 3;owner a;colour c;bank u of a colour c at 0 holds 90 size 4;"
        + "bank v of a colour c at 2 holds 50 size 9;cut level*10;settle 10;ebb 50;";

    public static void main(String[] args) {
        Due due = new Due("QuestionTests");
        kinds(due);
        tests(due);
        sums(due);
        faultsOfBytes(due);
        faultsOfDepth(due);
        without(due);
        due.finish();
    }

    private static void kinds(Due due) {
        SiltShare x = Due.river(RIVER);
        due.answer(x, "first level>3", 4);
        due.answer(x, "last level<7", 6);
        due.answer(x, "often level>3", 6);
        due.answer(x, "first level>9", -1);
        due.answer(x, "last level>9", -1);
        due.answer(x, "often level>9", 0);
        due.answer(x, "first all", 0);
        due.answer(x, "last all", 9);
        due.answer(x, "often all", 10);
        due.answer(x, "total level", 45);
        due.answer(x, "most level", 9);
        due.answer(x, "least level", 0);
        due.answer(x, "least 3-level", -6);
        due.answer(x, "most 0-5", -5);
        due.answer(x, "most 0-9999*9999", -1000000);
        due.answer(x, "least 9999*9999", 1000000);
        due.answer(x, "total 9999*9999", 10000000);
        due.answer(x, "total 0-9999*9999", -10000000);
        due.answer(x, " \n total\n \nlevel \n", 45);
        due.answer(x, "total 9999", 99990);
        // many and long ones, one behind the other
        for (int i = 0; i < 30; i++) {
            due.answer(x, "total " + i + Due.times("+1", 100), 1000 + 10 * i);
        }
    }

    private static void tests(Due due) {
        SiltShare x = Due.river(RIVER);
        due.answer(x, "often level=3", 1);
        due.answer(x, "often not level=3", 9);
        due.answer(x, "often not not level=3", 1);
        due.answer(x, "often not not not not not not level=3", 1);
        due.answer(x, "often level<3 or level>7", 5);
        due.answer(x, "often level>3 and level<7", 3);
        due.answer(x, "often level<2 or level>3 and level<7", 5);
        due.answer(x, "often level>3 and level<7 or level<2", 5);
        due.answer(x, "often [level<2 or level>3]and level<7", 5);
        due.answer(x, "often level>3 and[level<2 or level<7]", 3);
        due.answer(x, "often not level<2 and level<7", 5);
        due.answer(x, "often not[level<2 and level<7]", 8);
        due.answer(x, "often not all", 0);
        due.answer(x, "often all and all or not all", 10);
        due.answer(x, "often[[[[[[all]]]]]]", 10);
        due.answer(x, "often [all] and [all] and [all] and [all] and [all] and [all] and [all]", 10);
        due.answer(x, "often not all or not all or not all or not all or not all or not all or not all or all", 10);
        due.answer(x, "often level*2<level+3", 3);
        due.answer(x, "first (level)=(2)", 2);
        due.answer(x, "first min(level,4)=max(3,4)", 4);
        due.answer(x, "often level/2=1", 2);
        due.answer(x, "often (level-5)/2=0-1", 2);
    }

    private static void sums(Due due) {
        SiltShare x = Due.river(RIVER);
        // taken: u 10 .. 90, v 10 .. 50 by LEVELS 1 .. 9
        due.answer(x, "most taken", 140);
        due.answer(x, "total taken", 450 + 10 + 20 + 30 + 40 + 50 * 5);
        due.answer(x, "first taken=100", 5);
        // u lets 10 fall in each of three REACHES, v in 2 alone
        due.answer(x, "most sea", 60 + 40);
        due.answer(x, "first sea>0", 2);
        due.answer(x, "total lies 0", 90);
        due.answer(x, "total lies 1", 80);
        due.answer(x, "total lies 2", 90 + 70);
        due.answer(x, "total lies 3", 0);
        due.answer(x, "total lies(0-1)", 0);
        due.answer(x, "total lies 8", 0);
        due.answer(x, "total lies 9999", 0);
        due.answer(x, "most holds 0", 90);
        due.answer(x, "least holds 0", 0);
        due.answer(x, "total holds 1", 50 + 40 + 30 + 20 + 10);
        due.answer(x, "most holds 2", 0);
        due.answer(x, "most holds 10", 0);
        due.answer(x, "most holds(0-1)", 0);
        due.answer(x, "most lies 1+1", 11);
        due.answer(x, "most lies(1+1)", 20);
        due.answer(x, "most lies 2*2", 40);
        due.answer(x, "total lies level", 10);
        // by LEVEL 1 it is lies 0, from 2 on lies 10
        due.answer(x, "total lies lies 1", 10);
        due.answer(x, "total holds lies 1", 90 + 80);
        due.answer(x, "total lies min(0,level)", 90);
        due.answer(x, "total lies max(0,1)", 80);
        // a flood that was: without INTEREST to come, with what lies
        x.flood(1);
        due.is("lies(0, 0)", x.lies(0, 0), 5);
        due.answer(x, "least lies 0", 5);
        due.answer(x, "most lies 0", 15);
        due.answer(x, "most holds 0", 80);
        due.answer(x, "least sea", 0);
        due.is("nothing has changed", x.has(7), 1);
        x.stone(0, true);
        due.answer(x, "most lies 0", 15);
    }

    private static void faultsOfBytes(Due due) {
        SiltShare x = Due.river(RIVER);
        due.faultOfQuestion(x, "", 1, 0);
        due.faultOfQuestion(x, "  ", 1, 2);
        due.faultOfQuestion(x, "often", 1, 5);
        due.faultOfQuestion(x, "often ", 1, 6);
        due.faultOfQuestion(x, "oftener all", 1, 0);
        due.faultOfQuestion(x, " never all", 1, 1);
        due.faultOfQuestion(x, "often alls", 1, 6);
        due.faultOfQuestion(x, "often all x", 1, 10);
        due.faultOfQuestion(x, "often all;", 1, 9);
        due.faultOfQuestion(x, "often all all", 1, 10);
        due.faultOfQuestion(x, "often all\t", 1, 9);
        due.faultOfQuestion(x, "often level", 1, 11);
        due.faultOfQuestion(x, "often level<", 1, 12);
        due.faultOfQuestion(x, "often level<3<4", 1, 13);
        due.faultOfQuestion(x, "often level<=3", 1, 12);
        due.faultOfQuestion(x, "often level 3", 1, 12);
        due.faultOfQuestion(x, "often level<3 or", 1, 16);
        due.faultOfQuestion(x, "often level<3or all", 1, 13);
        due.faultOfQuestion(x, "often level<0or all", 1, 13);
        due.faultOfQuestion(x, "often level<9or all", 1, 13);
        due.faultOfQuestion(x, "often all or and", 1, 13);
        due.faultOfQuestion(x, "often [all", 1, 10);
        due.faultOfQuestion(x, "often [all)", 1, 10);
        due.faultOfQuestion(x, "often (all)", 1, 7);
        due.faultOfQuestion(x, "often (1<2)", 1, 8);
        due.faultOfQuestion(x, "often [1]", 1, 8);
        due.faultOfQuestion(x, "often not", 1, 9);
        due.faultOfQuestion(x, "often notall", 1, 6);
        due.faultOfQuestion(x, "total all", 1, 6);
        due.faultOfQuestion(x, "total not 1", 1, 6);
        due.faultOfQuestion(x, "total level<3", 1, 11);
        due.faultOfQuestion(x, "total 12345", 1, 10);
        due.faultOfQuestion(x, "total3", 1, 5);
        due.faultOfQuestion(x, "total lies", 1, 10);
        due.faultOfQuestion(x, "total lies2", 1, 10);
        due.faultOfQuestion(x, "total lies +1", 1, 11);
        due.faultOfQuestion(x, "total -1", 1, 6);
        due.faultOfQuestion(x, "total flow", 1, 6);
        due.faultOfQuestion(x, "total size", 1, 6);
        due.faultOfQuestion(x, "total held", 1, 6);
        due.faultOfQuestion(x, "total stones", 1, 6);
        due.faultOfQuestion(x, "total year", 1, 6);
        due.faultOfQuestion(x, "total place", 1, 6);
        due.faultOfQuestion(x, "total u", 1, 6);
        due.faultOfQuestion(x, "total 1+", 1, 8);
        due.faultOfQuestion(x, "total (1", 1, 8);
        due.faultOfQuestion(x, "total 1)", 1, 7);
        due.faultOfQuestion(x, "total min(1;2)", 1, 11);
        due.faultOfQuestion(x, "total min 1", 1, 10);
        due.faultOfQuestion(x, "Total 1", 1, 0);
        due.answer(x, "total 1", 10);
    }

    private static void faultsOfDepth(Due due) {
        SiltShare x = Due.river(RIVER);
        due.answer(x, "total ((((((1))))))", 10);
        due.faultOfQuestion(x, "total (((((((1)))))))", 4, 12);
        due.faultOfQuestion(x, "often [[[[[[[all", 4, 12);
        due.faultOfQuestion(x, "often not not not not not not not all", 4, 30);
        due.answer(x, "total lies lies lies lies lies lies 9", 90);
        due.faultOfQuestion(x, "total lies lies lies lies lies lies lies 9", 4, 36);
        due.faultOfQuestion(x, "total holds holds holds lies lies lies holds 9", 4, 39);
        due.faultOfQuestion(x, "often not[not[(lies(1", 4, 19);
        due.answer(x, "often not[not[(lies 9)=0]]", 10);
        due.answer(x, "often not[not[lies 9=0]]and not[not[lies 9=0]]", 10);
        due.faultOfQuestion(x, "often [[[[[[not all", 4, 12);
        due.faultOfQuestion(x, "often [[[[[[lies 1=1", 4, 12);
        due.faultOfQuestion(x, "often [[[[[[min(1,2)", 4, 15);
        due.answer(x, "often [[[[[lies 9=0 and holds 9=0 and min(1,2)=1 and not all or not all or all]]]]]", 10);
        due.answer(x, "often [[[[[lies 9+lies 9*lies 9=0]]]]]", 10);
        due.faultOfQuestion(x, "total ((((((1(", 1, 13);
        // not is open until its FACT ends, behind the whole of what it tells
        due.faultOfQuestion(x, "often not not not not not 1=min(1,(1))", 4, 34);
        due.answer(x, "often not not not not not not 1=1 and min(1,1)=1", 10);
        due.faultOfQuestion(x, "often not not not not not not 1=(1)", 4, 32);
    }

    private static void without(Due due) {
        SiltShare x = new SiltShare();
        Due.tell(x, "river 2;");
        x.river();
        Due.tell(x, "total 1");
        due.is("ask() without a river", x.ask(), SiltShare.NOTHING);
        due.is("fault(0) stays", x.fault(0), 2);
        due.is("fault(1) stays", x.fault(1), 6);
        due.is("the tape goes", x.end(1), false);
        Due.tell(x, RIVER);
        x.river();
        due.is("fault(0)", x.fault(0), 0);
        due.faultOfQuestion(x, "total", 1, 5);
        due.is("the tape goes", x.end(1), false);
        due.answer(x, "total 1", 10);
        due.is("the tape goes", x.end(1), false);
        due.is("a FAULT of ask() is no refusal", x.status(1), 1);
    }
}
