/** Helps tests to tell a shire a text and to say which answers are not as due. */
final class Calls {
    private final String title;
    private int asked = 0;
    private int wrong = 0;

    Calls(String title) {
        this.title = title;
    }

    /** Says it if an answer is not the one that is due. */
    void due(String call, long got, long want) {
        asked++;
        if (got != want) {
            wrong++;
            System.out.println(title + ": " + call + " answered " + got + ", due is " + want);
        }
    }

    void due(String call, boolean got, boolean want) {
        due(call, got ? 1 : 0, want ? 1 : 0);
    }

    /** All that lies there, and nothing more. */
    void dueLying(String call, FrothShire shire, int... want) {
        due(call + ", then about(12)", shire.about(12), want.length);
        for (int i = 0; i < want.length; i++) {
            due(call + ", then lies(" + i + ")", shire.lies(i), want[i]);
        }
        due(call + ", then lies(" + want.length + ")", shire.lies(want.length), -2);
        due(call + ", then lies(-1)", shire.lies(-1), -2);
    }

    /** A text with this FAULT at this place, told to a new shire. */
    void dueFault(String text, int sort, int place) {
        FrothShire shire = new FrothShire();
        due("shire() of " + text, tell(shire, text), FrothShire.NONE);
        due("fault(0) of " + text, shire.fault(0), sort);
        due("fault(1) of " + text, shire.fault(1), place);
    }

    /** Ends the test: with exit code 1 if an answer was not as due. */
    void end() {
        System.out.println(title + ": " + asked + " answers, " + wrong + " not as due");
        if (wrong != 0) {
            System.exit(1);
        }
    }

    /** Feeds a text in pieces of twenty bytes. */
    static void feed(FrothShire shire, String text) {
        for (int from = 0; from < text.length(); from += 20) {
            shire.feed(four(text, from), four(text, from + 4), four(text, from + 8), four(text, from + 12),
                    four(text, from + 16));
        }
        shire.end(text.length());
    }

    /** Four bytes of a text as a number; 0 for what is behind its end. */
    static int four(String text, int from) {
        int number = 0;
        for (int i = from; i < from + 4; i++) {
            number = number << 8 | (i < text.length() ? text.charAt(i) & 255 : 0);
        }
        return number;
    }

    static int tell(FrothShire shire, String text) {
        feed(shire, text);
        return shire.shire();
    }

    static FrothShire told(String text) {
        FrothShire shire = new FrothShire();
        if (tell(shire, text) == FrothShire.NONE) {
            System.out.println("a test tells what is no shire: fault " + shire.fault(0) + " at " + shire.fault(1)
                    + " of " + text);
            System.exit(1);
        }
        return shire;
    }
}
