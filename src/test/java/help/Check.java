import java.util.NoSuchElementException;

/** What the tests have in common: texts fed to an object, and answers that are compared with those due. */
final class Check {
    static final int NONE = -1;
    static final int HIDDEN = -1000000;
    private static int wrong = 0;
    private static int asked = 0;

    private Check() {
    }

    static void due(String call, long want, long got) {
        asked++;
        if (got != want) {
            wrong++;
            System.out.println(call + " answered " + got + ", due is " + want);
        }
    }

    static void yes(String call, boolean got) {
        due(call, 1, got ? 1 : 0);
    }

    static void no(String call, boolean got) {
        due(call, 0, got ? 1 : 0);
    }

    /** Whether village(..) throws what the document names. */
    static boolean noVillage(ThirdComer x, int village, int what) {
        try {
            x.village(village, what);
            return false;
        } catch (NoSuchElementException e) {
            return true;
        }
    }

    /** Whether value(..) throws what the document names. */
    static boolean noValue(ThirdComer x, int minute) {
        try {
            x.value(minute);
            return false;
        } catch (NoSuchElementException e) {
            return true;
        }
    }

    /** The four bytes of a text from a place on as a number, 0 for those behind its end. */
    static int word(String text, int from) {
        int word = 0;
        for (int i = from; i < from + 4; i++) {
            word = word << 8 | (i < text.length() ? text.charAt(i) & 255 : 0);
        }
        return word;
    }

    /** Feeds a text; answers what the last feed did. */
    static int feed(ThirdComer x, String text) {
        int answer = x.count(2);
        for (int i = 0; i < text.length(); i += 20) {
            answer = x.feed(word(text, i), word(text, i + 4), word(text, i + 8), word(text, i + 12),
                word(text, i + 16));
        }
        return answer;
    }

    /** The fault of a text alone on the tape. */
    static int faultOf(ThirdComer x, int sort, String text) {
        x.end(0);
        feed(x, text);
        int fault = x.fault(sort);
        x.end(0);
        return fault;
    }

    /** A new object with texts: those that begin with y are ways, others villages. */
    static ThirdComer with(String... texts) {
        ThirdComer x = new ThirdComer();
        for (String text : texts) {
            feed(x, text);
            int number = x.text(text.trim().startsWith("y") ? 1 : 0);
            if (number == NONE) {
                due("a text of the test: " + text, 0, NONE);
            }
        }
        return x;
    }

    static void finish() {
        System.out.println(asked + " answers, " + wrong + " not as due");
        if (wrong != 0) {
            System.exit(1);
        }
    }
}
