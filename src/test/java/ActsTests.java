/** Promises 20 to 23, 31 to 34: stones, raking, undoing, the seed, IMAGES, refusals. */
public final class ActsTests {
    private static final String RIVER = "river 3;owner a;owner b;colour c;bank u of a colour c at 0 holds 90 size 4;"
        + "bank v of b colour c at 1 holds 80 size 2;cut 20;settle 5+stones;ebb 20;";

    public static void main(String[] args) {
        Due due = new Due("ActsTests");
        stones(due);
        raking(due);
        undoing(due);
        undoingTwenty(due);
        seeds(due);
        images(due);
        greatest(due);
        imagesOn(due);
        noImages(due);
        refusals(due);
        due.finish();
    }

    private static void stones(Due due) {
        SiltShare x = Due.river(RIVER);
        due.is("stone(0, false) of none", x.stone(0, false), false);
        for (int i = 1; i <= 3; i++) {
            due.is("stone(0, true)", x.stone(0, true), true);
            due.is("reach(0, 1)", x.reach(0, 1), i);
        }
        due.is("a fourth stone", x.stone(0, true), false);
        due.is("stone(3, true)", x.stone(3, true), false);
        due.is("stone(-1, true)", x.stone(-1, true), false);
        due.is("stone(MIN, false)", x.stone(Integer.MIN_VALUE, false), false);
        due.is("has(8)", x.has(8), 3);
        due.is("has(12)", x.has(12), 3);
        due.is("status(3)", x.status(3), 5);
        due.is("settles by stones", x.settles(0, 0, 1), 8);
        due.is("stone(1, true)", x.stone(1, true), true);
        due.is("the last stone taken", x.stone(1, false), true);
        due.is("reach(1, 1)", x.reach(1, 1), 0);
        due.is("stone(0, false)", x.stone(0, false), true);
        due.is("stone(2, true)", x.stone(2, true), true);
        due.is("has(8)", x.has(8), 3);
        due.is("reach(0, 1)", x.reach(0, 1), 2);
    }

    private static void raking(Due due) {
        SiltShare x = Due.river(RIVER);
        due.is("rake of nothing", x.rake(0, 0, 1, 1), false);
        x.flood(1);
        // 5 of u in each REACH, 5 of v in 1 and 2, 1 of each 5 went
        due.is("lies(1, 0)", x.lies(1, 0), 4);
        due.is("rake of 5 of 4", x.rake(1, 0, 1, 5), false);
        due.is("rake of none", x.rake(1, 0, 1, 0), false);
        due.is("rake of -1", x.rake(1, 0, 1, -1), false);
        due.is("rake of one BANK", x.rake(1, 0, 0, 1), false);
        due.is("rake(3, ..)", x.rake(3, 0, 1, 1), false);
        due.is("rake(-1, ..)", x.rake(-1, 0, 1, 1), false);
        due.is("rake(1, 2, ..)", x.rake(1, 2, 1, 1), false);
        due.is("rake(1, 0, 2, 1)", x.rake(1, 0, 2, 1), false);
        due.is("rake(1, -1, 0, 1)", x.rake(1, -1, 0, 1), false);
        due.is("rake(1, 0, -1, 1)", x.rake(1, 0, -1, 1), false);
        due.is("rake where none of it lies", x.rake(0, 1, 0, 1), false);
        due.is("status(3)", x.status(3), 12);
        due.is("has(12)", x.has(12), 1);
        due.is("rake(1, 0, 1, 3)", x.rake(1, 0, 1, 3), true);
        due.is("lies(1, 0)", x.lies(1, 0), 1);
        due.is("lies(1, 1)", x.lies(1, 1), 7);
        due.is("lies(0, 0)", x.lies(0, 0), 4);
        due.is("share(1, 0)", x.share(1, 0), 125);
        due.is("bank(1, 5)", x.bank(1, 5), 11);
        due.is("has(10)", x.has(10), 20);
        due.is("all of them", x.rake(1, 1, 0, 7), true);
        due.is("lies(1, 0)", x.lies(1, 0), 8);
        due.is("has(12)", x.has(12), 3);
        // at 20 of 100 of 8 a grain goes, and it is one of u
        int gone = x.bank(0, 6);
        x.flood(0);
        due.is("raked grains go to the SEA as what they count as", x.bank(0, 6), gone + 1);
    }

    private static void undoing(Due due) {
        SiltShare x = Due.river(RIVER);
        due.is("undo() of nothing", x.undo(), false);
        due.is("status(4)", x.status(4), 1);
        x.flood(1);
        int[] first = state(x);
        x.stone(2, true);
        int[] second = state(x);
        x.rake(1, 0, 1, 2);
        int[] third = state(x);
        x.years(7);
        x.flood(12);
        x.stone(3, true);
        due.is("has(12)", x.has(12), 4);
        due.is("undo() of YEARS", x.undo(), true);
        same(due, "behind years", state(x), third);
        due.is("undo() of raking", x.undo(), true);
        same(due, "behind rake", state(x), second);
        due.is("undo() of a stone", x.undo(), true);
        same(due, "behind stone", state(x), first);
        x.stone(0, true);
        due.is("has(12)", x.has(12), 2);
        due.is("undo()", x.undo(), true);
        same(due, "behind another stone", state(x), first);
        due.is("undo() of a FLOOD", x.undo(), true);
        same(due, "at first", state(x), state(Due.river(RIVER)));
        due.is("has(12)", x.has(12), 0);
        due.is("undo()", x.undo(), false);
        due.is("status(4)", x.status(4), 2);
    }

    private static void undoingTwenty(Due due) {
        SiltShare x = Due.river(RIVER);
        for (int i = 0; i < 33; i++) {
            due.is("flood(0)", x.flood(0), 0);
        }
        due.is("has(12)", x.has(12), 20);
        for (int i = 1; i <= 20; i++) {
            due.is("undo() no. " + i, x.undo(), true);
            due.is("has(7)", x.has(7), 33 - i);
            due.is("has(12)", x.has(12), 20 - i);
        }
        due.is("undo() no. 21", x.undo(), false);
        due.is("has(7)", x.has(7), 13);
        x.flood(2);
        due.is("undo()", x.undo(), true);
        due.is("undo()", x.undo(), false);
    }

    private static void seeds(Due due) {
        SiltShare x = Due.river(RIVER);
        due.is("seed(-1)", x.seed(-1), false);
        due.is("seed(MIN)", x.seed(Integer.MIN_VALUE), false);
        due.is("status(5)", x.status(5), 2);
        due.is("has(12)", x.has(12), 0);
        SiltShare y = Due.river(RIVER);
        due.is("seed(1)", y.seed(1), true);
        due.is("it is 1 at first", x.years(9), y.years(9));
        due.is("seed(64)", x.seed(64), true);
        x.undo();
        y.undo();
        long drawn = (1103515245L * 64 + 12345) % (1L << 31);
        int level = (int) (drawn / 64 % 10);
        due.is("a YEAR by the seed 64", x.years(1), x.has(7) == 1 ? y.flood(level) : -1);
        same(due, "states by the seed 64", state(x), state(y));
        x.undo();
        y.undo();
        x.years(9);
        due.is("seed(0)", x.seed(0), true);
        y.seed(12345);
        // the first draw of 0 leaves 12345
        x.years(1);
        y.undo();
        x.undo();
        x.undo();
        due.is("has(7)", x.has(7), 0);
        due.is("years from 0 and from 12345", x.years(8), y.years(8));
        same(due, "states", state(x), state(y));
    }

    private static void images(Due due) {
        SiltShare x = new SiltShare();
        due.is("image() of nothing", x.image(), 3);
        due.is("octet(0)", x.octet(0), 0);
        due.is("octet(1)", x.octet(1), 0);
        due.is("octet(2)", x.octet(2), 51);
        due.is("octet(3)", x.octet(3), -1);
        due.is("octet(-1)", x.octet(-1), -1);
        x = Due.river(RIVER);
        x.flood(1);
        x.stone(1, true);
        x.stone(1, true);
        x.rake(0, 0, 1, 1);
        for (int i = 0; i < 6; i++) {
            x.years(50);
            x.undo();
        }
        // YEAR 1; 3 of u and 1 of v; two stones, 4 and 4; 4 and 4; u holds 70 and 5 + 3 went, v 60 and 10 + 2
        int[] want = {0, 1, 0, 0, 3, 0, 1, 2, 0, 4, 0, 4, 0, 0, 4, 0, 4, 70, 0, 8, 60, 0, 12, 0};
        int check = 173;
        for (int i = 0; i < want.length - 1; i++) {
            check = (3 * check + want[i]) % 251;
        }
        want[want.length - 1] = check;
        due.is("image()", x.image(), want.length);
        for (int k = 0; k < want.length; k++) {
            due.is("octet(" + k + ")", x.octet(k), want[k]);
        }
        due.is("octet behind it", x.octet(want.length), -1);
        x.flood(0);
        due.is("octet(1) is of the latest image()", x.octet(1), 1);
        x.image();
        due.is("octet(1)", x.octet(1), 2);
        for (int i = 0; i < 12; i++) {
            x.years(25);
        }
        x.image();
        due.is("octet(0) of YEAR 302", x.octet(0), 1);
        due.is("octet(1) of YEAR 302", x.octet(1), 46);
    }

    /** A RIVER with all that there may be: its IMAGE, undone and taken on. */
    private static void greatest(Due due) {
        StringBuilder text = new StringBuilder("river 8;owner a;colour c;cut 8;settle 1;");
        for (char name = 'p'; name < 'z'; name++) {
            text.append("bank ").append(name).append(" of a colour c at 0 holds ").append(90 + name - 'p').append(" size 1;");
        }
        SiltShare x = Due.river(text.toString());
        for (int r = 0; r < 8; r++) {
            x.stone(r, true);
        }
        for (int i = 0; i < 12; i++) {
            due.is("flood(1)", x.flood(1), i < 11 ? 80 : x.has(10) - 880);
        }
        int[] then = imageOf(x);
        due.is("image()", then.length, 201);
        due.is("octet(200)", x.octet(200), then[200]);
        due.is("octet(201)", x.octet(201), -1);
        for (int i = 0; i < 20; i++) {
            x.rake(7, i % 10, (i + 1) % 10, 3 + i);
        }
        due.is("has(12)", x.has(12), 20);
        for (int i = 0; i < 20; i++) {
            x.undo();
        }
        same(due, "undone", state(x), then);
        Due.tell(x, text.toString());
        x.river();
        Due.tellBytes(x, then);
        due.is("on()", x.on(), true);
        same(due, "taken on", state(x), then);
        due.is("bank(9, 5)", x.bank(9, 5), then[2 + 7 * 21 + 1 + 19] * 8);
    }

    private static int[] imageOf(SiltShare x) {
        int[] bytes = new int[x.image()];
        for (int k = 0; k < bytes.length; k++) {
            bytes[k] = x.octet(k);
        }
        return bytes;
    }

    private static void imagesOn(Due due) {
        SiltShare x = Due.river(RIVER);
        x.flood(1);
        x.stone(2, true);
        x.rake(1, 0, 1, 2);
        int[] image = imageOf(x);
        int[] then = state(x);
        Due.tellNumbers(x, 4, 8, 8);
        x.find();
        x.seed(99);
        x.years(30);
        Due.tellBytes(x, image);
        due.is("on()", x.on(), true);
        same(due, "behind on()", state(x), then);
        due.is("has(12)", x.has(12), 0);
        due.is("undo()", x.undo(), false);
        due.is("what is FOUND stays", x.levels() != -1, true);
        due.is("the tape goes", x.feed(0, 0, 0, 0, 0), 20);
        SiltShare y = Due.river(RIVER);
        Due.tellBytes(y, image);
        due.is("on() of another object", y.on(), true);
        same(due, "behind on()", state(y), then);
        // a river without BANKS: YEAR and stones alone
        SiltShare z = Due.river("river 3;");
        Due.tellBytes(z, checked(3, 231, 3, 0, 1, 0));
        due.is("on() at the greatest", z.on(), true);
        due.is("has(7)", z.has(7), 999);
        due.is("reach(0, 1)", z.reach(0, 1), 3);
        due.is("reach(2, 1)", z.reach(2, 1), 1);
        // grains may count as others: all together as told is enough
        SiltShare w = Due.river("river 3;owner a;colour c;bank b of a colour c at 0 holds 1 size 1;bank d of a colour c at 0 holds 2 size 1;");
        Due.tellBytes(w, checked(0, 0, 0, 0, 0, 0, 0, 0, 0, 0, 0, 0, 0, 0, 0, 0, 0, 3, 0, 0, 0, 0, 0, 0));
        due.is("on() by other BANKS", w.on(), true);
        due.is("lies(2, 1)", w.lies(2, 1), 0);
        due.is("bank(0, 4)", w.bank(0, 4), 3);
        // more in a BANK than any text tells, and more than a signed byte has
        SiltShare v = Due.river("river 3;owner a;colour c;bank b of a colour c at 0 holds 99 size 1;"
            + "bank d of a colour c at 0 holds 99 size 1;bank e of a colour c at 0 holds 99 size 1;");
        int[] full = new int[33];
        full[23] = 255;
        full[31] = 42;
        Due.tellBytes(v, checked(full));
        due.is("on() with 255 in a BANK", v.on(), true);
        due.is("bank(0, 4)", v.bank(0, 4), 255);
        due.is("bank(2, 6)", v.bank(2, 6), 42);
        same(due, "with 255 in a BANK", state(v), full);
    }

    /** These bytes, the last one in place of which the check is. */
    private static int[] checked(int... bytes) {
        int check = 173;
        for (int i = 0; i < bytes.length - 1; i++) {
            check = (3 * check + bytes[i]) % 251;
        }
        bytes[bytes.length - 1] = check;
        return bytes;
    }

    private static void notOn(Due due, String why, int... bytes) {
        SiltShare x = Due.river("river 3;owner a;colour c;bank b of a colour c at 0 holds 9 size 1;cut 3;settle 1;");
        x.flood(2);
        x.stone(1, true);
        int[] then = state(x);
        Due.tellBytes(x, bytes);
        due.is("on() " + why, x.on(), false);
        same(due, why, state(x), then);
        due.is("status(5) " + why, x.status(5), 1);
        due.is("has(12) " + why, x.has(12), 2);
        due.is("the tape goes " + why, x.end(1), false);
    }

    private static void noImages(Due due) {
        int[] good = checked(0, 5, 1, 0, 2, 2, 0, 1, 3, 0, 0, 4, 0, 2, 0);
        SiltShare x = Due.river("river 3;owner a;colour c;bank b of a colour c at 0 holds 9 size 1;");
        Due.tellBytes(x, good);
        due.is("on() of the good one", x.on(), true);
        notOn(due, "of nothing");
        notOn(due, "with four stones", checked(0, 5, 1, 0, 2, 2, 0, 1, 4, 0, 0, 4, 0, 2, 0));
        notOn(due, "with four stones in 0", checked(0, 5, 4, 0, 2, 2, 0, 1, 0, 0, 0, 4, 0, 2, 0));
        notOn(due, "of YEAR 1000", checked(3, 232, 1, 0, 2, 2, 0, 1, 3, 0, 0, 4, 0, 2, 0));
        notOn(due, "with a grain too many", checked(0, 5, 1, 0, 2, 2, 0, 1, 3, 0, 0, 5, 0, 2, 0));
        notOn(due, "with a grain too few", checked(0, 5, 1, 0, 2, 2, 0, 0, 3, 0, 0, 4, 0, 2, 0));
        notOn(due, "with 256 grains too many", checked(0, 5, 1, 1, 2, 2, 0, 1, 3, 0, 0, 4, 0, 2, 0));
        notOn(due, "a byte too short", checked(0, 5, 1, 0, 2, 2, 0, 1, 3, 0, 0, 4, 2, 0));
        notOn(due, "with two bytes for what a BANK holds", checked(0, 5, 1, 0, 2, 2, 0, 1, 3, 0, 0, 0, 4, 0, 2, 0));
        notOn(due, "a byte too long", checked(0, 5, 1, 0, 2, 2, 0, 1, 3, 0, 0, 4, 0, 2, 0, 0));
        int[] bad = good.clone();
        bad[14] = (bad[14] + 1) % 256;
        notOn(due, "with another check", bad);
        int[] far = good.clone();
        for (int year = 0; far[14] > 4; year++) {
            far[1] = year;
            checked(far);
        }
        Due.tellBytes(x, far);
        due.is("on() with a check of at most 4", x.on(), true);
        far[14] += 251;
        notOn(due, "with a check of 251 more", far);
        SiltShare y = new SiltShare();
        Due.tellBytes(y, 0, 0, 51);
        due.is("on() without a river", y.on(), false);
        due.is("status(5)", y.status(5), 1);
        due.is("the tape goes", y.end(1), false);
    }

    private static void refusals(Due due) {
        SiltShare x = new SiltShare();
        x.river();
        x.river();
        x.flood(1);
        x.years(3);
        x.stone(0, true);
        x.rake(0, 0, 1, 1);
        x.undo();
        x.seed(-5);
        x.on();
        x.end(1);
        int[] want = {1, 2, 2, 2, 1, 2};
        for (int what = 0; what < want.length; what++) {
            due.is("status(" + what + ")", x.status(what), want[what]);
        }
        due.is("status(6)", x.status(6), -1);
        due.is("status(-1)", x.status(-1), -1);
        x.find();
        x.forged(0);
        x.ask();
        x.mine(0, 0, 0, 0, 0);
        x.octet(9);
        for (int what = 0; what < want.length; what++) {
            due.is("status(" + what + ") stays", x.status(what), want[what]);
        }
        // a river() keeps them
        Due.tell(x, "river 3;");
        x.river();
        due.is("status(4)", x.status(4), 1);
    }

    private static int[] state(SiltShare x) {
        return imageOf(x);
    }

    private static void same(Due due, String what, int[] got, int[] want) {
        due.is("length " + what, got.length, want.length);
        for (int i = 0; i < want.length && i < got.length; i++) {
            due.is("byte " + i + " " + what, got[i], want[i]);
        }
    }
}
