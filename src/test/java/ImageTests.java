/** AN IMAGE (term IV) and promises 31 to 34: written, read, taken on, and how many calls were refused. */
public final class ImageTests {
    private static final int[] NO_INDEX = {-1, -2, Integer.MIN_VALUE, Integer.MAX_VALUE};
    private static final String RIVER = "river 3;owner a;owner b;colour c;bank u of a colour c at 0 holds 90 size 4;"
        + "bank v of b colour c at 1 holds 80 size 2;cut 20;settle 5+stones;ebb 20;";
    private static final String ONE_BANK = "river 3;owner a;colour c;bank b of a colour c at 0 holds 9 size 1;cut 3;settle 1;";

    public static void main(String[] args) {
        Due due = new Due("ImageTests");
        bytes(due);
        higherBytes(due);
        lengths(due);
        octets(due);
        taken(due);
        greatest(due);
        atTheirMost(due);
        otherBanks(due);
        none(due);
        withoutRiver(due);
        refusals(due);
        noStatus(due);
        due.finish();
    }

    private static void bytes(Due due) {
        due.holds("Term IV", "AN IMAGE: YEAR (two bytes, the higher first); for each REACH its stones, and for each BANK how many of its grains lie there "
            + "(two bytes); for each BANK what it holds, how many went to the SEA (two bytes); last a byte: all ahead from 173 on, c = (3 c + it) mod 251.");
        SiltShare x = Due.river(RIVER);
        x.flood(1);
        x.stone(1, true);
        x.stone(1, true);
        x.rake(0, 0, 1, 1);
        for (int i = 0; i < 6; i++) {
            x.years(50);
            x.undo();
        }
        // YEAR 1; 3 of u and 1 of v; two stones, 4 and 4; 4 and 4; u holds 70 and 5 + 3 went, v 60 and 10 + 2
        int[] want = checked(0, 1, 0, 0, 3, 0, 1, 2, 0, 4, 0, 4, 0, 0, 4, 0, 4, 70, 0, 8, 60, 0, 12, 0);
        due.row("the image", Due.imageOf(x), want);
    }

    private static void higherBytes(Due due) {
        due.holds("Term IV", "YEAR (two bytes, the higher first);");
        SiltShare x = Due.river("river 3;");
        for (int i = 0; i < 5; i++) {
            x.years(50);
        }
        for (int year = 251; year <= 257; year++) {
            x.flood(0);
            x.image();
            due.is("octet(0) of YEAR " + year, x.octet(0), year / 256);
            due.is("octet(1) of YEAR " + year, x.octet(1), year % 256);
        }
        for (int i = 0; i < 14; i++) {
            x.years(50);
        }
        x.years(42);
        due.row("the image of YEAR 999", Due.imageOf(x), checked(3, 231, 0, 0, 0, 0));
        due.holds("Term IV", "for each BANK how many of its grains lie there (two bytes);");
        StringBuilder text = new StringBuilder("river 3;owner a;colour c;cut 99;settle 99;ebb 50;");
        for (char name = 'p'; name < 'z'; name++) {
            text.append("bank ").append(name).append(" of a colour c at 1 holds 99 size 1;");
        }
        SiltShare y = Due.river(text.toString());
        y.flood(1);
        for (int b = 1; b < 10; b++) {
            due.is("rake", y.rake(1, b, 0, 50), true);
        }
        y.image();
        int at = 2 + 21 + 1;
        due.is("500 of the first BANK: the higher byte", y.octet(at), 1);
        due.is("500 of the first BANK: the lower byte", y.octet(at + 1), 244);
        due.holds("Term IV", "for each BANK what it holds, how many went to the SEA (two bytes);");
        y.flood(0);
        y.image();
        at = 2 + 3 * 21;
        due.is("it holds none", y.octet(at), 0);
        due.is("49 and 250 went to the SEA: the higher byte", y.octet(at + 1), 1);
        due.is("49 and 250 went to the SEA: the lower byte", y.octet(at + 2), 43);
        due.is("49 went of the next", y.octet(at + 5), 49);
    }

    private static void lengths(Due due) {
        due.holds("Promise 31", "AN IMAGE is written: how many bytes.");
        for (int reaches = 3; reaches <= 8; reaches++) {
            StringBuilder text = new StringBuilder("river " + reaches + ";owner a;colour c;");
            for (int banks = 0; banks <= 10; banks++) {
                SiltShare x = Due.river(text.toString());
                int want = 2 + reaches * (1 + 2 * banks) + 3 * banks + 1;
                due.is("image() of " + reaches + " REACHES and " + banks + " BANKS", x.image(), want);
                due.is("the last octet", x.octet(want - 1) >= 0, true);
                due.is("the octet behind it", x.octet(want), -1);
                text.append("bank ").append((char) ('p' + banks)).append(" of a colour c at 1 holds 99 size 1;");
            }
        }
        SiltShare x = new SiltShare();
        due.is("image() without a river", x.image(), 3);
        due.row("the image without a river", Due.imageOf(x), 0, 0, 51);
    }

    private static void octets(Due due) {
        due.holds("Promise 32", "Byte k of the latest image(); NONE when there is none such.");
        SiltShare x = new SiltShare();
        due.is("octet(0) ahead of any", x.octet(0), -1);
        Due.tell(x, RIVER);
        x.river();
        due.is("octet(0) ahead of any", x.octet(0), -1);
        x.flood(1);
        due.is("image()", x.image(), 24);
        int last = x.octet(23);
        due.is("octet(1)", x.octet(1), 1);
        due.is("octet(24)", x.octet(24), -1);
        for (int none : NO_INDEX) {
            due.is("octet(" + none + ")", x.octet(none), -1);
        }
        x.flood(0);
        x.undo();
        x.stone(0, true);
        due.is("octet(1) is of the latest image()", x.octet(1), 1);
        due.is("octet(2) is of the latest image()", x.octet(2), 0);
        Due.tell(x, "river 3;");
        x.river();
        due.is("octet(23) stays when a river comes", x.octet(23), last);
        due.is("image()", x.image(), 6);
        due.is("octet(1)", x.octet(1), 0);
        due.is("octet(5)", x.octet(5) >= 0, true);
        due.is("octet(6) is no more", x.octet(6), -1);
        due.is("octet(23) is no more", x.octet(23), -1);
    }

    private static void taken(Due due) {
        due.holds("Promise 33", "The tape (it goes) is AN IMAGE of this RIVER: true, all is as it tells, nothing can be undone;");
        SiltShare x = Due.river(RIVER);
        x.flood(1);
        x.stone(2, true);
        x.rake(1, 0, 1, 2);
        int[] then = Due.imageOf(x);
        Due.tellNumbers(x, 4, 8, 8);
        x.find();
        x.seed(99);
        x.years(30);
        Due.tellBytes(x, then);
        due.is("on()", x.on(), true);
        due.row("behind on()", Due.imageOf(x), then);
        due.is("has(7)", x.has(7), 1);
        due.is("has(8)", x.has(8), 1);
        due.is("has(12)", x.has(12), 0);
        due.is("undo()", x.undo(), false);
        due.is("what is FOUND stays", x.levels() != -1, true);
        due.is("the tape goes", x.end(1), false);
        due.is("status(5)", x.status(5), 0);
        SiltShare y = Due.river(RIVER);
        Due.tellBytes(y, then);
        due.is("on() of another object", y.on(), true);
        due.row("behind on()", Due.imageOf(y), then);
        x.flood(3);
        y.flood(3);
        due.row("and it goes on alike", Due.imageOf(x), Due.imageOf(y));
        due.is("what comes behind on() can be undone", x.undo(), true);
        due.row("behind undo()", Due.imageOf(x), then);
        due.is("undo() no more", x.undo(), false);
    }

    /** A RIVER with all that there may be: its IMAGE, undone and taken on. */
    private static void greatest(Due due) {
        StringBuilder text = new StringBuilder("river 8;owner a;colour c;cut 8;settle 1;");
        for (char name = 'p'; name < 'z'; name++) {
            text.append("bank ").append(name).append(" of a colour c at 0 holds ").append(90 + name - 'p').append(" size 1;");
        }
        SiltShare x = Due.river(text.toString());
        for (int r = 0; r < 8; r++) {
            x.stone(r, true);
        }
        for (int i = 0; i < 12; i++) {
            due.is("flood(1)", x.flood(1), i < 11 ? 80 : x.has(10) - 880);
        }
        int[] then = Due.imageOf(x);
        due.is("image()", then.length, 201);
        for (int i = 0; i < 20; i++) {
            x.rake(7, i % 10, (i + 1) % 10, 3 + i);
        }
        due.is("has(12)", x.has(12), 20);
        for (int i = 0; i < 20; i++) {
            x.undo();
        }
        due.row("undone", Due.imageOf(x), then);
        SiltShare y = Due.river(text.toString());
        Due.tellBytes(y, then);
        due.is("on()", y.on(), true);
        due.row("taken on", Due.imageOf(y), then);
        due.is("bank(9, 5)", y.bank(9, 5), then[2 + 7 * 21 + 1 + 19] * 8);
    }

    /** These bytes, the last one in place of which the check is. */
    private static int[] checked(int... bytes) {
        int check = 173;
        for (int i = 0; i < bytes.length - 1; i++) {
            check = (3 * check + bytes[i]) % 251;
        }
        bytes[bytes.length - 1] = check;
        return bytes;
    }

    private static void atTheirMost(Due due) {
        due.holds("Promise 33", "(YEARS 999, stones 3 at most; all grains together as told)");
        SiltShare z = Due.river("river 3;");
        Due.tellBytes(z, checked(3, 231, 3, 3, 3, 0));
        due.is("on() at the greatest", z.on(), true);
        due.is("has(7)", z.has(7), 999);
        due.is("has(8)", z.has(8), 9);
        due.is("flood(1) in YEAR 999", z.flood(1), -1);
        due.is("a fourth stone", z.stone(2, true), false);
        Due.tellBytes(z, checked(0, 0, 0, 0, 0, 0));
        due.is("on() at the least", z.on(), true);
        due.is("has(7)", z.has(7), 0);
        due.is("has(8)", z.has(8), 0);
        for (int r = 0; r < 3; r++) {
            int[] image = {0, 0, 0, 0, 0, 0};
            image[2 + r] = 4;
            Due.tellBytes(z, checked(image));
            due.is("on() with four stones in " + r, z.on(), false);
            image[2 + r] = 255;
            Due.tellBytes(z, checked(image));
            due.is("on() with 255 stones in " + r, z.on(), false);
        }
        Due.tellBytes(z, checked(3, 232, 0, 0, 0, 0));
        due.is("on() of YEAR 1000", z.on(), false);
        Due.tellBytes(z, checked(255, 255, 0, 0, 0, 0));
        due.is("on() of YEAR 65535", z.on(), false);
        due.is("has(7)", z.has(7), 0);
        due.is("status(5)", z.status(5), 8);
    }

    private static void otherBanks(Due due) {
        due.holds("Promise 33", "all grains together as told");
        // grains may count as others: all together as told is enough
        SiltShare w = Due.river("river 3;owner a;colour c;bank b of a colour c at 0 holds 1 size 1;bank d of a colour c at 0 holds 2 size 1;");
        Due.tellBytes(w, checked(0, 0, 0, 0, 0, 0, 0, 0, 0, 0, 0, 0, 0, 0, 0, 0, 0, 3, 0, 0, 0, 0, 0, 0));
        due.is("on() by other BANKS", w.on(), true);
        due.is("bank(0, 4)", w.bank(0, 4), 3);
        Due.tellBytes(w, checked(0, 0, 0, 0, 1, 0, 0, 0, 0, 0, 0, 0, 0, 0, 0, 0, 1, 0, 0, 0, 0, 0, 1, 0));
        due.is("on() with one in a REACH, one in another, one gone", w.on(), true);
        due.is("lies(0, 0)", w.lies(0, 0), 1);
        due.is("lies(2, 1)", w.lies(2, 1), 1);
        due.is("bank(1, 6)", w.bank(1, 6), 1);
        // more in a BANK than any text tells, and more than a signed byte has
        SiltShare v = Due.river("river 3;owner a;colour c;bank b of a colour c at 0 holds 99 size 1;"
            + "bank d of a colour c at 0 holds 99 size 1;bank e of a colour c at 0 holds 99 size 1;");
        int[] full = new int[33];
        full[23] = 255;
        full[31] = 42;
        Due.tellBytes(v, checked(full));
        due.is("on() with 255 in a BANK", v.on(), true);
        due.is("bank(0, 4)", v.bank(0, 4), 255);
        due.is("bank(2, 6)", v.bank(2, 6), 42);
        due.row("with 255 in a BANK", Due.imageOf(v), full);
        full[23] = 0;
        full[31] = 0;
        full[17] = 1;
        full[18] = 41;
        Due.tellBytes(v, checked(full));
        due.is("on() with 297 in a REACH", v.on(), true);
        due.is("lies(2, 0)", v.lies(2, 0), 297);
        full[17] = 0;
        full[18] = 0;
        full[30] = 1;
        full[31] = 41;
        Due.tellBytes(v, checked(full));
        due.is("on() with 297 gone", v.on(), true);
        due.is("bank(2, 6)", v.bank(2, 6), 297);
    }

    private static void notOn(Due due, String why, int... bytes) {
        SiltShare x = Due.river(ONE_BANK);
        x.flood(2);
        x.stone(1, true);
        Due.tellNumbers(x, 1, 1, 1);
        x.find();
        int[] then = Due.imageOf(x);
        Due.tellBytes(x, bytes);
        due.is("on() " + why, x.on(), false);
        due.row(why, Due.imageOf(x), then);
        due.is("status(5) " + why, x.status(5), 1);
        due.is("has(12) " + why, x.has(12), 2);
        due.is("levels() " + why, x.levels(), 1);
        due.is("the tape goes " + why, x.end(1), false);
        due.is("undo() " + why, x.undo(), true);
        due.is("reach(1, 1) undone " + why, x.reach(1, 1), 0);
    }

    private static void none(Due due) {
        due.holds("Promise 33", "false, refused (5), when it is none (YEARS 999, stones 3 at most; all grains together as told), or there is no river, all staying.");
        int[] good = checked(0, 5, 1, 0, 2, 2, 0, 1, 3, 0, 0, 4, 0, 2, 0);
        SiltShare x = Due.river(ONE_BANK);
        Due.tellBytes(x, good);
        due.is("on() of the good one", x.on(), true);
        due.row("of the good one", Due.imageOf(x), good);
        notOn(due, "of nothing");
        notOn(due, "of one byte", 173);
        notOn(due, "with four stones", checked(0, 5, 1, 0, 2, 2, 0, 1, 4, 0, 0, 4, 0, 2, 0));
        notOn(due, "with four stones in 0", checked(0, 5, 4, 0, 2, 2, 0, 1, 0, 0, 0, 4, 0, 2, 0));
        notOn(due, "of YEAR 1000", checked(3, 232, 1, 0, 2, 2, 0, 1, 3, 0, 0, 4, 0, 2, 0));
        notOn(due, "with a grain too many held", checked(0, 5, 1, 0, 2, 2, 0, 1, 3, 0, 0, 5, 0, 2, 0));
        notOn(due, "with a grain too many in a REACH", checked(0, 5, 1, 0, 3, 2, 0, 1, 3, 0, 0, 4, 0, 2, 0));
        notOn(due, "with a grain too many gone", checked(0, 5, 1, 0, 2, 2, 0, 1, 3, 0, 0, 4, 0, 3, 0));
        notOn(due, "with a grain too few held", checked(0, 5, 1, 0, 2, 2, 0, 1, 3, 0, 0, 3, 0, 2, 0));
        notOn(due, "with a grain too few in a REACH", checked(0, 5, 1, 0, 2, 2, 0, 0, 3, 0, 0, 4, 0, 2, 0));
        notOn(due, "with a grain too few gone", checked(0, 5, 1, 0, 2, 2, 0, 1, 3, 0, 0, 4, 0, 1, 0));
        notOn(due, "with 256 grains too many", checked(0, 5, 1, 1, 2, 2, 0, 1, 3, 0, 0, 4, 0, 2, 0));
        notOn(due, "with 256 grains too many gone", checked(0, 5, 1, 0, 2, 2, 0, 1, 3, 0, 0, 4, 1, 2, 0));
        notOn(due, "a byte too short", checked(0, 5, 1, 0, 2, 2, 0, 1, 3, 0, 0, 4, 2, 0));
        notOn(due, "without its check", 0, 5, 1, 0, 2, 2, 0, 1, 3, 0, 0, 4, 0, 2);
        notOn(due, "with two bytes for what a BANK holds", checked(0, 5, 1, 0, 2, 2, 0, 1, 3, 0, 0, 0, 4, 0, 2, 0));
        notOn(due, "a byte too long", checked(0, 5, 1, 0, 2, 2, 0, 1, 3, 0, 0, 4, 0, 2, 0, 0));
        notOn(due, "of another RIVER", checked(0, 0, 0, 0, 0, 0));
        for (int off : new int[] {-1, 1, 128}) {
            int[] bad = good.clone();
            bad[14] = (bad[14] + off + 256) % 256;
            notOn(due, "with a check of " + off + " more", bad);
        }
        int[] far = good.clone();
        for (int year = 0; far[14] > 4; year++) {
            far[1] = year;
            checked(far);
        }
        Due.tellBytes(x, far);
        due.is("on() with a check of at most 4", x.on(), true);
        far[14] += 251;
        notOn(due, "with a check of 251 more", far);
        for (int at = 0; at < 14; at++) {
            int[] bad = good.clone();
            bad[at]++;
            notOn(due, "with byte " + at + " one more", bad);
        }
    }

    private static void withoutRiver(Due due) {
        due.holds("Promise 33", "or there is no river, all staying.");
        SiltShare y = new SiltShare();
        Due.tellBytes(y, 0, 0, 51);
        due.is("on() without a river", y.on(), false);
        due.is("status(5)", y.status(5), 1);
        due.is("the tape goes", y.end(1), false);
        due.is("on() of nothing without a river", y.on(), false);
        due.is("status(5)", y.status(5), 2);
        due.is("has(0)", y.has(0), 0);
        due.is("has(7)", y.has(7), 0);
    }

    private static int[] status(SiltShare x) {
        int[] row = new int[6];
        for (int what = 0; what < row.length; what++) {
            row[what] = x.status(what);
        }
        return row;
    }

    private static void refusals(Due due) {
        due.holds("Promise 34", "How many were refused: 0 feed(), end(); 1 river(); 2 flood(), years(); 3 stone(), rake(); 4 undo(); 5 seed(), on().");
        SiltShare x = new SiltShare();
        due.row("status at first", status(x), 0, 0, 0, 0, 0, 0);
        x.end(1);
        due.row("status", status(x), 1, 0, 0, 0, 0, 0);
        for (int i = 0; i < 81; i++) {
            x.feed(0, 0, 0, 0, 0);
        }
        due.row("status", status(x), 2, 0, 0, 0, 0, 0);
        x.river();
        due.row("status", status(x), 2, 1, 0, 0, 0, 0);
        x.flood(1);
        due.row("status", status(x), 2, 1, 1, 0, 0, 0);
        x.years(3);
        due.row("status", status(x), 2, 1, 2, 0, 0, 0);
        x.stone(0, true);
        due.row("status", status(x), 2, 1, 2, 1, 0, 0);
        x.rake(0, 0, 1, 1);
        due.row("status", status(x), 2, 1, 2, 2, 0, 0);
        x.undo();
        due.row("status", status(x), 2, 1, 2, 2, 1, 0);
        x.seed(-5);
        due.row("status", status(x), 2, 1, 2, 2, 1, 1);
        x.on();
        due.row("status", status(x), 2, 1, 2, 2, 1, 2);
        // no other call is ever refused
        x.find();
        x.forged(0);
        x.ask();
        x.levels();
        x.mine(0, 0, 0, 0, 0);
        x.keep(0, 0, 0, 0);
        x.until(0, 0, 0);
        x.octet(9);
        x.fault(9);
        x.has(-1);
        x.status(-1);
        x.letter(9, 9, 9);
        x.would(9, 9);
        due.row("status", status(x), 2, 1, 2, 2, 1, 2);
        // what goes well adds none, and a river() keeps them
        Due.tell(x, RIVER);
        x.river();
        x.flood(1);
        x.years(1);
        x.stone(0, true);
        x.rake(0, 0, 1, 1);
        x.undo();
        x.seed(5);
        Due.tell(x, "total");
        x.ask();
        Due.tellBytes(x, Due.imageOf(x));
        due.is("on()", x.on(), true);
        due.row("status", status(x), 2, 1, 2, 2, 1, 2);
    }

    private static void noStatus(Due due) {
        due.holds("Promise 34", "NONE for others.");
        SiltShare x = new SiltShare();
        due.is("status(6)", x.status(6), -1);
        for (int none : NO_INDEX) {
            due.is("status(" + none + ")", x.status(none), -1);
        }
    }
}
