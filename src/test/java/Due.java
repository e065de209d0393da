/**
 * What the tests share: which sentence of ../shared/DOC.md they hold, counting answers that are not
 * due, and telling an object texts.
 */
final class Due {
    private final String name;
    private String held = "";
    private int sentences;
    private int asked;
    private int askedOfSentence = 1;
    private int wrong;

    Due(String name) {
        this.name = name;
    }

    /** From here on the answers hold this sentence of this promise or term, word by word as the document has it. */
    void holds(String promise, String sentence) {
        sentenceEnds();
        held = ", " + promise + ": \"" + sentence + "\"";
        sentences++;
        askedOfSentence = 0;
    }

    private void sentenceEnds() {
        if (askedOfSentence == 0) {
            wrong++;
            System.out.println(name + held + ": nothing is asked of it");
        }
    }

    void is(String call, long got, long want) {
        asked++;
        askedOfSentence++;
        if (got != want) {
            wrong++;
            System.out.println(name + held + ": " + call + " answered " + got + ", due is " + want);
        }
    }

    void is(String call, boolean got, boolean want) {
        is(call, got ? 1 : 0, want ? 1 : 0);
    }

    void row(String what, int[] got, int... want) {
        is("how many of " + what, got.length, want.length);
        for (int i = 0; i < want.length && i < got.length; i++) {
            is("no. " + i + " of " + what, got[i], want[i]);
        }
    }

    /** The FAULT of a text of a RIVER; its place is told by a | ahead of it. */
    void fault(int fault, String marked) {
        int place = marked.indexOf('|');
        faultOfRiver(marked.substring(0, place) + marked.substring(place + 1), fault, place);
    }

    /** The FAULT of a QUESTION about a new RIVER, likewise. */
    void fault(String river, int fault, String marked) {
        fault(river(river), fault, marked);
    }

    void fault(SiltShare x, int fault, String marked) {
        int place = marked.indexOf('|');
        faultOfQuestion(x, marked.substring(0, place) + marked.substring(place + 1), fault, place);
    }

    private static String brief(String text) {
        return text.length() < 200 ? "\"" + text + "\"" : "\"" + text.substring(0, 80) + "\" and " + (text.length() - 80) + " bytes more";
    }

    /** The FAULT of a text of a RIVER and its place. */
    void faultOfRiver(String text, int fault, int place) {
        SiltShare x = new SiltShare();
        tell(x, text);
        is("river() of " + brief(text), x.river(), SiltShare.NONE);
        is("fault(0) of " + brief(text), x.fault(0), fault);
        is("fault(1) of " + brief(text), x.fault(1), place);
        is("status(1) of " + brief(text), x.status(1), 1);
    }

    /** Whether a text is a RIVER of so many STATEMENTS. */
    void isRiver(String text, int statements) {
        SiltShare x = new SiltShare();
        tell(x, text);
        is("river() of " + brief(text), x.river(), statements);
        is("fault(0) of " + brief(text), x.fault(0), 0);
        is("fault(1) of " + brief(text), x.fault(1), SiltShare.NONE);
    }

    void faultOfQuestion(SiltShare x, String text, int fault, int place) {
        tell(x, text);
        is("ask() of " + brief(text), x.ask(), SiltShare.NOTHING);
        is("fault(0) of " + brief(text), x.fault(0), fault);
        is("fault(1) of " + brief(text), x.fault(1), place);
    }

    /** The answer to a QUESTION about a new RIVER. */
    void answer(String river, String text, long want) {
        answer(river(river), text, want);
    }

    void answer(SiltShare x, String text, long want) {
        tell(x, text);
        is("ask() of " + brief(text), x.ask(), want);
        is("fault(0) of " + brief(text), x.fault(0), 0);
        is("fault(1) of " + brief(text), x.fault(1), SiltShare.NONE);
    }

    void finish() {
        sentenceEnds();
        System.out.println(name + ": " + asked + " answers to " + sentences + " sentences, " + wrong + " not as due");
        if (wrong != 0 || asked == 0) {
            System.exit(1);
        }
    }

    static SiltShare river(String text) {
        SiltShare x = new SiltShare();
        tell(x, text);
        if (x.river() == SiltShare.NONE) {
            throw new IllegalStateException("FAULT " + x.fault(0) + " at " + x.fault(1) + " of " + text);
        }
        return x;
    }

    static void tell(SiltShare x, String text) {
        int[] bytes = new int[text.length()];
        for (int i = 0; i < bytes.length; i++) {
            bytes[i] = text.charAt(i);
        }
        tellBytes(x, bytes);
    }

    static void tellNumbers(SiltShare x, int... numbers) {
        int[] bytes = new int[2 * numbers.length];
        for (int i = 0; i < numbers.length; i++) {
            bytes[2 * i] = numbers[i] >> 8 & 255;
            bytes[2 * i + 1] = numbers[i] & 255;
        }
        tellBytes(x, bytes);
    }

    /** Puts these bytes on an empty tape. */
    static void tellBytes(SiltShare x, int... bytes) {
        x.end(0);
        int[] fives = new int[(bytes.length + 19) / 20 * 5];
        for (int i = 0; i < bytes.length; i++) {
            fives[i / 4] |= (bytes[i] & 255) << 24 - i % 4 * 8;
        }
        for (int i = 0; i < fives.length; i += 5) {
            x.feed(fives[i], fives[i + 1], fives[i + 2], fives[i + 3], fives[i + 4]);
        }
        x.end(bytes.length);
    }

    static int[] imageOf(SiltShare x) {
        int[] bytes = new int[Math.max(0, x.image())];
        for (int k = 0; k < bytes.length; k++) {
            bytes[k] = x.octet(k);
        }
        return bytes;
    }

    static String times(String part, int n) {
        StringBuilder text = new StringBuilder();
        for (int i = 0; i < n; i++) {
            text.append(part);
        }
        return text.toString();
    }
}
