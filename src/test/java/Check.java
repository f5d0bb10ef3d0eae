import java.util.NoSuchElementException;

/** What the tests share: counting wrong answers, and telling texts. */
final class Check {
    static final int NONE = -1;
    static final int NO_SUCH = -2;
    private int wrong;
    private int asked;

    void due(String call, long want, long got) {
        asked++;
        if (want != got) {
            wrong++;
            System.out.println(call + " answered " + got + ", due is " + want);
        }
    }

    void due(String call, boolean want, boolean got) {
        due(call, want ? 1 : 0, got ? 1 : 0);
    }

    /** Asks along(); throwing counts as Integer.MIN_VALUE. */
    static int along(QuickestOut x, int road, int what) {
        try {
            return x.along(road, what);
        } catch (NoSuchElementException e) {
            return Integer.MIN_VALUE;
        }
    }

    /** Feeds a text of at most 400 bytes, cuts the tape to it, and tells it. */
    static int tell(QuickestOut x, String text) {
        feed(x, text);
        return x.tell();
    }

    static void feed(QuickestOut x, String text) {
        int before = x.count(3);
        for (int at = 0; at < text.length(); at += 20) {
            x.feed(four(text, at), four(text, at + 4), four(text, at + 8), four(text, at + 12), four(text, at + 16));
        }
        x.end(before + text.length());
    }

    private static int four(String text, int at) {
        int number = 0;
        for (int i = at; i < at + 4; i++) {
            number = number << 8 | (i < text.length() ? text.charAt(i) & 255 : ' ');
        }
        return number;
    }

    void end(String name) {
        System.out.println(name + ": " + asked + " answers, " + wrong + " wrong");
        if (wrong != 0 || asked == 0) {
            System.exit(1);
        }
    }
}
