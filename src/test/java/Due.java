/** What the tests share: counting answers that are not due, and telling an object texts. */
final class Due {
    private final String name;
    private int asked;
    private int wrong;

    Due(String name) {
        this.name = name;
    }

    void is(String call, long got, long want) {
        asked++;
        if (got != want) {
            wrong++;
            System.out.println(name + ": " + call + " answered " + got + ", due is " + want);
        }
    }

    void is(String call, boolean got, boolean want) {
        is(call, got ? 1 : 0, want ? 1 : 0);
    }

    /** The FAULT of a text of a RIVER and its place. */
    void faultOfRiver(String text, int fault, int place) {
        SiltShare x = new SiltShare();
        tell(x, text);
        is("river() of \"" + text + "\"", x.river(), SiltShare.NONE);
        is("fault(0) of \"" + text + "\"", x.fault(0), fault);
        is("fault(1) of \"" + text + "\"", x.fault(1), place);
        is("status(1) of \"" + text + "\"", x.status(1), 1);
    }

    /** Whether a text is a RIVER of so many STATEMENTS. */
    void isRiver(String text, int statements) {
        SiltShare x = new SiltShare();
        tell(x, text);
        is("river() of \"" + text + "\"", x.river(), statements);
        is("fault(0) of \"" + text + "\"", x.fault(0), 0);
        is("fault(1) of \"" + text + "\"", x.fault(1), SiltShare.NONE);
    }

    void faultOfQuestion(SiltShare x, String text, int fault, int place) {
        tell(x, text);
        is("ask() of \"" + text + "\"", x.ask(), SiltShare.NOTHING);
        is("fault(0) of \"" + text + "\"", x.fault(0), fault);
        is("fault(1) of \"" + text + "\"", x.fault(1), place);
    }

    void answer(SiltShare x, String text, long want) {
        tell(x, text);
        is("ask() of \"" + text + "\"", x.ask(), want);
        is("fault(0) of \"" + text + "\"", x.fault(0), 0);
        is("fault(1) of \"" + text + "\"", x.fault(1), SiltShare.NONE);
    }

    void finish() {
        System.out.println(name + ": " + asked + " answers, " + wrong + " not as due");
        if (wrong != 0 || asked == 0) {
            System.exit(1);
        }
    }

    static SiltShare river(String text) {
        SiltShare x = new SiltShare();
        tell(x, text);
        if (x.river() == SiltShare.NONE) {
            throw new IllegalStateException("FAULT " + x.fault(0) + " at " + x.fault(1) + " of " + text);
        }
        return x;
    }

    static void tell(SiltShare x, String text) {
        int[] bytes = new int[text.length()];
        for (int i = 0; i < bytes.length; i++) {
            bytes[i] = text.charAt(i);
        }
        tellBytes(x, bytes);
    }

    static void tellNumbers(SiltShare x, int... numbers) {
        int[] bytes = new int[2 * numbers.length];
        for (int i = 0; i < numbers.length; i++) {
            bytes[2 * i] = numbers[i] >> 8 & 255;
            bytes[2 * i + 1] = numbers[i] & 255;
        }
        tellBytes(x, bytes);
    }

    /** Puts these bytes on an empty tape. */
    static void tellBytes(SiltShare x, int... bytes) {
        x.end(0);
        int[] fives = new int[(bytes.length + 19) / 20 * 5];
        for (int i = 0; i < bytes.length; i++) {
            fives[i / 4] |= (bytes[i] & 255) << 24 - i % 4 * 8;
        }
        for (int i = 0; i < fives.length; i += 5) {
            x.feed(fives[i], fives[i + 1], fives[i + 2], fives[i + 3], fives[i + 4]);
        }
        x.end(bytes.length);
    }

    static String times(String part, int n) {
        StringBuilder text = new StringBuilder();
        for (int i = 0; i < n; i++) {
            text.append(part);
        }
        return text.toString();
    }
}
