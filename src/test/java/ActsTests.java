/** Promises 20 to 23 and the ACTS of term II: stones, raking, undoing, the seed. */
public final class ActsTests {
    private static final String II = "Term II";
    private static final int[] NO_INDEX = {-1, -2, Integer.MIN_VALUE, Integer.MAX_VALUE};
    private static final String RIVER = "river 3;owner a;owner b;colour c;bank u of a colour c at 0 holds 90 size 4;"
        + "bank v of b colour c at 1 holds 80 size 2;cut 20;settle 5+stones;ebb 20;";

    public static void main(String[] args) {
        Due due = new Due("ActsTests");
        stones(due);
        noStones(due);
        raking(due);
        noRaking(due);
        undoing(due);
        undoingTwenty(due);
        noUndoing(due);
        seeds(due);
        due.finish();
    }

    private static void stones(Due due) {
        due.holds(II, "a stone is laid in a REACH (3 at most there), or taken;");
        SiltShare x = Due.river(RIVER);
        for (int i = 1; i <= 3; i++) {
            due.is("stone(0, true)", x.stone(0, true), true);
            due.is("reach(0, 1)", x.reach(0, 1), i);
        }
        due.is("a fourth stone", x.stone(0, true), false);
        due.is("reach(0, 1)", x.reach(0, 1), 3);
        due.is("a stone elsewhere", x.stone(2, true), true);
        due.is("has(8)", x.has(8), 4);
        for (int i = 2; i >= 0; i--) {
            due.is("stone(0, false)", x.stone(0, false), true);
            due.is("reach(0, 1)", x.reach(0, 1), i);
        }
        due.is("a stone where there is none", x.stone(0, false), false);
        due.is("reach(0, 1)", x.reach(0, 1), 0);
        due.is("reach(2, 1)", x.reach(2, 1), 1);
        due.holds("Promise 20", "A stone is laid (is true) in a REACH, or taken: true;");
        x = Due.river(RIVER);
        due.is("stone(1, true)", x.stone(1, true), true);
        due.is("has(8)", x.has(8), 1);
        due.is("settles by a stone", x.settles(1, 1, 1), 6);
        due.is("flow by a stone", x.flow(1, 4), 1);
        due.is("the last stone taken", x.stone(1, false), true);
        due.is("reach(1, 1)", x.reach(1, 1), 0);
        due.is("settles without", x.settles(1, 1, 1), 5);
        due.is("stone(2, true) in the last REACH", x.stone(2, true), true);
        due.is("reach(2, 1)", x.reach(2, 1), 1);
        due.is("has(12)", x.has(12), 3);
        due.is("has(7)", x.has(7), 0);
    }

    private static void noStones(Due due) {
        due.holds("Promise 20", "false, refused (3), when it can't be.");
        SiltShare x = Due.river(RIVER);
        due.is("stone(0, false) of none", x.stone(0, false), false);
        due.is("stone(3, true)", x.stone(3, true), false);
        due.is("stone(3, false)", x.stone(3, false), false);
        for (int none : NO_INDEX) {
            due.is("stone(" + none + ", true)", x.stone(none, true), false);
            due.is("stone(" + none + ", false)", x.stone(none, false), false);
        }
        due.is("status(3)", x.status(3), 11);
        due.is("has(12)", x.has(12), 0);
        due.is("has(8)", x.has(8), 0);
        for (int i = 0; i < 3; i++) {
            x.stone(1, true);
        }
        due.is("a fourth stone", x.stone(1, true), false);
        due.is("status(3)", x.status(3), 12);
        due.is("has(12)", x.has(12), 3);
        SiltShare y = new SiltShare();
        due.is("stone(0, true) without a river", y.stone(0, true), false);
        due.is("status(3)", y.status(3), 1);
        SiltShare z = Due.river("river 8;");
        due.is("stone(7, true)", z.stone(7, true), true);
        due.is("stone(8, true)", z.stone(8, true), false);
    }

    private static void raking(Due due) {
        due.holds("Promise 21", "RAKED are n grains (1 and more) of a BANK that lie in a REACH: they count as another BANK's: true;");
        SiltShare x = Due.river(RIVER);
        x.flood(1);
        // 5 of u in each REACH, 5 of v in 1 and 2, 1 of each 5 went
        due.is("lies(1, 0)", x.lies(1, 0), 4);
        due.is("rake(1, 0, 1, 3)", x.rake(1, 0, 1, 3), true);
        due.is("lies(1, 0)", x.lies(1, 0), 1);
        due.is("lies(1, 1)", x.lies(1, 1), 7);
        due.is("lies(0, 0)", x.lies(0, 0), 4);
        due.is("lies(2, 1)", x.lies(2, 1), 4);
        due.is("share(1, 0)", x.share(1, 0), 125);
        due.is("bank(1, 5)", x.bank(1, 5), 11);
        due.is("bank(0, 4)", x.bank(0, 4), 70);
        due.is("has(10)", x.has(10), 20);
        due.is("a single one", x.rake(1, 0, 1, 1), true);
        due.is("lies(1, 0)", x.lies(1, 0), 0);
        due.is("all of them", x.rake(1, 1, 0, 8), true);
        due.is("lies(1, 0)", x.lies(1, 0), 8);
        due.is("lies(1, 1)", x.lies(1, 1), 0);
        due.is("where none of the other lies", x.rake(0, 0, 1, 4), true);
        due.is("lies(0, 1)", x.lies(0, 1), 4);
        due.is("has(12)", x.has(12), 5);
        due.is("has(7)", x.has(7), 1);
        due.holds(II, "grains are RAKED: some of those of a BANK that lie in a REACH count as another one's from then on.");
        // at 20 of 100 of 8 a grain goes, and it is one of u
        int gone = x.bank(0, 6);
        x.flood(0);
        due.is("raked grains go to the SEA as what they count as", x.bank(0, 6), gone + 1);
        due.is("of 4 none goes", x.lies(0, 1), 4);
    }

    private static void noRaking(Due due) {
        due.holds("Promise 21", "false, refused (3), when there are none such, not so many, or it is one BANK.");
        SiltShare x = Due.river(RIVER);
        due.is("rake of nothing", x.rake(0, 0, 1, 1), false);
        due.is("status(3)", x.status(3), 1);
        x.flood(1);
        int[] then = Due.imageOf(x);
        due.is("rake of 5 of 4", x.rake(1, 0, 1, 5), false);
        due.is("rake of all there may be", x.rake(1, 0, 1, Integer.MAX_VALUE), false);
        due.is("rake of none", x.rake(1, 0, 1, 0), false);
        due.is("rake of -1", x.rake(1, 0, 1, -1), false);
        due.is("rake of MIN", x.rake(1, 0, 1, Integer.MIN_VALUE), false);
        due.is("rake of one BANK", x.rake(1, 0, 0, 1), false);
        due.is("rake of one BANK", x.rake(1, 1, 1, 4), false);
        due.is("rake where none of it lies", x.rake(0, 1, 0, 1), false);
        due.is("rake(3, ..)", x.rake(3, 0, 1, 1), false);
        due.is("rake(1, 2, ..)", x.rake(1, 2, 1, 1), false);
        due.is("rake(1, 0, 2, 1)", x.rake(1, 0, 2, 1), false);
        for (int none : NO_INDEX) {
            due.is("rake(" + none + ", 0, 1, 1)", x.rake(none, 0, 1, 1), false);
            due.is("rake(1, " + none + ", 0, 1)", x.rake(1, none, 0, 1), false);
            due.is("rake(1, 0, " + none + ", 1)", x.rake(1, 0, none, 1), false);
        }
        due.is("status(3)", x.status(3), 24);
        due.is("has(12)", x.has(12), 1);
        due.row("the image", Due.imageOf(x), then);
        due.is("rake(1, 0, 1, 4)", x.rake(1, 0, 1, 4), true);
        SiltShare y = new SiltShare();
        due.is("rake without a river", y.rake(0, 0, 1, 1), false);
        due.is("status(3)", y.status(3), 1);
    }

    private static void undoing(Due due) {
        due.holds("Promise 22", "The latest ACT is undone (the seed stays): true;");
        SiltShare x = Due.river(RIVER);
        int[] none = Due.imageOf(x);
        x.flood(1);
        int[] first = Due.imageOf(x);
        x.stone(2, true);
        int[] second = Due.imageOf(x);
        x.rake(1, 0, 1, 2);
        int[] third = Due.imageOf(x);
        x.years(7);
        int[] fourth = Due.imageOf(x);
        x.stone(2, false);
        // what is refused, asked or set is no ACT
        x.flood(12);
        x.stone(3, true);
        x.rake(1, 0, 0, 1);
        x.years(0);
        x.seed(5);
        x.until(0, 0, 3);
        due.is("has(12)", x.has(12), 5);
        due.is("undo() of a stone taken", x.undo(), true);
        due.row("behind years", Due.imageOf(x), fourth);
        due.is("undo() of YEARS, one ACT", x.undo(), true);
        due.row("behind rake", Due.imageOf(x), third);
        due.is("undo() of raking", x.undo(), true);
        due.row("behind stone", Due.imageOf(x), second);
        due.is("undo() of a stone", x.undo(), true);
        due.row("behind flood", Due.imageOf(x), first);
        x.stone(0, true);
        due.is("has(12)", x.has(12), 2);
        due.is("undo()", x.undo(), true);
        due.row("behind another stone", Due.imageOf(x), first);
        due.is("undo() of a FLOOD", x.undo(), true);
        due.row("at first", Due.imageOf(x), none);
        due.is("has(12)", x.has(12), 0);
        long seed = 9;
        for (int i = 0; i < 3; i++) {
            seed = (1103515245L * seed + 12345) % (1L << 31);
        }
        x.seed(9);
        x.years(3);
        due.is("undo() of three draws", x.undo(), true);
        SiltShare y = Due.river(RIVER);
        y.seed((int) seed);
        due.is("the seed stays behind them", x.years(4), y.years(4));
        due.row("by the seed that stays", Due.imageOf(x), Due.imageOf(y));
    }

    private static void undoingTwenty(Due due) {
        due.holds(II, "The last 20 can be undone.");
        SiltShare x = Due.river(RIVER);
        for (int i = 1; i <= 33; i++) {
            due.is("flood(0)", x.flood(0), 0);
            due.is("has(12)", x.has(12), Math.min(20, i));
        }
        for (int i = 1; i <= 20; i++) {
            due.is("undo() no. " + i, x.undo(), true);
            due.is("has(7)", x.has(7), 33 - i);
            due.is("has(12)", x.has(12), 20 - i);
        }
        due.is("undo() no. 21", x.undo(), false);
        due.is("has(7)", x.has(7), 13);
        x.flood(2);
        due.is("has(12)", x.has(12), 1);
        due.is("undo()", x.undo(), true);
        due.is("undo()", x.undo(), false);
        for (int acts = 19; acts <= 21; acts++) {
            SiltShare y = Due.river(RIVER);
            for (int i = 0; i < acts; i++) {
                y.flood(3);
            }
            for (int i = 0; i < Math.min(20, acts); i++) {
                due.is("undo() of " + acts, y.undo(), true);
            }
            due.is("undo() of all " + acts, y.undo(), false);
            due.is("has(7) of " + acts, y.has(7), Math.max(0, acts - 20));
        }
    }

    private static void noUndoing(Due due) {
        due.holds("Promise 22", "false, refused (4), when none can be.");
        SiltShare x = new SiltShare();
        due.is("undo() without a river", x.undo(), false);
        due.is("status(4)", x.status(4), 1);
        Due.tell(x, RIVER);
        x.river();
        due.is("undo() of nothing", x.undo(), false);
        due.is("status(4)", x.status(4), 2);
        int[] then = Due.imageOf(x);
        x.flood(1);
        due.is("undo()", x.undo(), true);
        due.is("status(4)", x.status(4), 2);
        due.is("undo() of nothing", x.undo(), false);
        due.is("status(4)", x.status(4), 3);
        due.row("the image", Due.imageOf(x), then);
    }

    private static void seeds(Due due) {
        due.holds("Promise 23", "The seed: true; false, refused (5), when it is below 0. (It is 1 at first.)");
        SiltShare x = Due.river(RIVER);
        due.is("seed(-1)", x.seed(-1), false);
        due.is("seed(MIN)", x.seed(Integer.MIN_VALUE), false);
        due.is("status(5)", x.status(5), 2);
        due.is("has(12)", x.has(12), 0);
        SiltShare y = Due.river(RIVER);
        due.is("seed(1)", y.seed(1), true);
        due.is("it is 1 at first", x.years(9), y.years(9));
        due.row("by the seed 1", Due.imageOf(x), Due.imageOf(y));
        due.is("seed(64)", x.seed(64), true);
        due.is("seed(-64) leaves it", x.seed(-64), false);
        x.undo();
        y.undo();
        long drawn = (1103515245L * 64 + 12345) % (1L << 31);
        int level = (int) (drawn / 64 % 10);
        due.is("a YEAR by the seed 64", x.years(1), y.flood(level));
        due.row("states by the seed 64", Due.imageOf(x), Due.imageOf(y));
        x.undo();
        y.undo();
        due.is("seed(0)", x.seed(0), true);
        due.is("seed(12345)", y.seed(12345), true);
        // the first draw of 0 leaves 12345
        x.years(1);
        x.undo();
        due.is("years from 0 and from 12345", x.years(8), y.years(8));
        due.row("states", Due.imageOf(x), Due.imageOf(y));
        due.is("seed(MAX)", x.seed(Integer.MAX_VALUE), true);
        due.is("status(5)", x.status(5), 3);
        due.is("a seed is no ACT", x.has(12), 1);
        SiltShare z = new SiltShare();
        due.is("seed(7) without a river", z.seed(7), true);
        Due.tell(z, RIVER);
        z.river();
        y = Due.river(RIVER);
        y.seed(7);
        due.is("it stays when a river comes", z.years(6), y.years(6));
        due.row("states", Due.imageOf(z), Due.imageOf(y));
    }
}
