import java.io.IOException;
import java.nio.charset.StandardCharsets;
import java.nio.file.Files;
import java.nio.file.Path;
import java.util.function.IntSupplier;

/** What the tests share: counting wrong answers, and telling a text to an object. */
final class Check {
    private static int asked = 0;
    private static int wrong = 0;
    private static String document = null;
    private static String sentence = "";
    private static int askedAhead = 0;

    private Check() {
    }

    static void due(String call, long got, long want) {
        asked++;
        if (got != want) {
            wrong++;
            System.out.println(sentence + call + " answered " + got + ", due is " + want);
        }
    }

    static void due(String call, boolean got, boolean want) {
        due(call, got ? 1 : 0, want ? 1 : 0);
    }

    static void due(String call, String got, String want) {
        due(call + " [" + got + "], due is [" + want + "]: the same", got.equals(want), true);
    }

    /** What comes next tests these words of the document; they must stand there, and something must come. */
    static void sentence(String words) {
        closeSentence();
        if (document == null) {
            document = plain(readDocument());
        }
        sentence = "";
        due("the document says: " + words, document.contains(plain(words)), true);
        sentence = "\"" + words + "\": ";
        askedAhead = asked;
    }

    private static void closeSentence() {
        if (!sentence.isEmpty()) {
            due("has a test", asked > askedAhead, true);
        }
    }

    private static String plain(String words) {
        return words.replaceAll("\\s+", " ");
    }

    private static String readDocument() {
        try {
            return Files.readString(Path.of("../shared/DOC.md"));
        } catch (IOException gone) {
            return "";
        }
    }

    /** A call with its answer, behind which all that can be seen is as it was. */
    static void still(NightHouses x, String call, IntSupplier ask, int want) {
        String before = Sight.of(x);
        due(call, ask.getAsInt(), want);
        due("behind " + call, Sight.of(x), before);
    }

    /** A call that is refused, and does nothing. */
    static void refused(NightHouses x, String call, IntSupplier ask) {
        still(x, call, ask, NightHouses.NONE);
    }

    /** Puts a text on the tape, in place of what is there. */
    static void tape(NightHouses x, String text) {
        x.end(0);
        byte[] bytes = text.getBytes(StandardCharsets.ISO_8859_1);
        for (int at = 0; at < bytes.length; at += 20) {
            x.feed(four(bytes, at), four(bytes, at + 4), four(bytes, at + 8), four(bytes, at + 12), four(bytes, at + 16));
        }
        x.end(bytes.length);
    }

    static int four(byte[] bytes, int at) {
        int number = 0;
        for (int i = at; i < at + 4; i++) {
            number = number << 8 | (i < bytes.length ? bytes[i] & 255 : 32);
        }
        return number;
    }

    static NightHouses told(String text) {
        NightHouses x = new NightHouses();
        tape(x, text);
        if (x.land() == NightHouses.NONE) {
            due("land() of " + text + " (fault " + x.fault(0) + " at " + x.fault(1) + ")", 1, 0);
        }
        return x;
    }

    /** Tells a text without a fault: so many houses. */
    static NightHouses good(String text, int houses) {
        NightHouses x = new NightHouses();
        tape(x, text);
        due("land() of [" + text + "]", x.land(), houses);
        due("fault(0) of [" + text + "]", x.fault(0), 0);
        due("fault(1) of [" + text + "]", x.fault(1), NightHouses.NONE);
        return x;
    }

    /** Tells a text that has a fault. */
    static void fault(String text, int fault, int place) {
        NightHouses x = new NightHouses();
        tape(x, text);
        due("land() of [" + text + "]", x.land(), NightHouses.NONE);
        due("fault(0) of [" + text + "]", x.fault(0), fault);
        due("fault(1) of [" + text + "]", x.fault(1), place);
        due("about(12) behind [" + text + "]", x.about(12), text.length());
    }

    /** What lies there, as text. */
    static String lying(NightHouses x) {
        StringBuilder all = new StringBuilder();
        for (int i = 0; i < x.about(14); i++) {
            all.append(i == 0 ? "" : " ").append(x.lies(i));
        }
        return all.toString();
    }

    static void finish() {
        closeSentence();
        System.out.println(asked - wrong + " answers as due, " + wrong + " not");
        if (wrong != 0 || asked == 0) {
            System.exit(1);
        }
    }
}
