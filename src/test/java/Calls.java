import java.util.function.IntSupplier;

/** Helps tests to tell a shire a text and to say which answers are not as due. */
final class Calls {
    private final String title;
    private int asked = 0;
    private int wrong = 0;

    Calls(String title) {
        this.title = title;
    }

    /** Says it if an answer is not the one that is due. */
    void due(String call, long got, long want) {
        asked++;
        if (got != want) {
            wrong++;
            System.out.println(title + ": " + call + " answered " + got + ", due is " + want);
        }
    }

    void due(String call, boolean got, boolean want) {
        due(call, got ? 1 : 0, want ? 1 : 0);
    }

    /** All that lies there, and nothing more. */
    void dueLying(String call, FrothShire shire, int... want) {
        due(call + ", then about(12)", shire.about(12), want.length);
        for (int i = 0; i < want.length; i++) {
            due(call + ", then lies(" + i + ")", shire.lies(i), want[i]);
        }
        due(call + ", then lies(" + want.length + ")", shire.lies(want.length), -2);
        due(call + ", then lies(-1)", shire.lies(-1), -2);
    }

    /** A call that answers NONE and leaves all as it was. */
    void dueRefused(String call, FrothShire shire, IntSupplier asked) {
        String before = all(shire);
        due(call, asked.getAsInt(), FrothShire.NONE);
        due(call + " leaves all as it was", all(shire).equals(before), true);
    }

    /** A call that is an ACT: it is kept, taken back and done again, and those that were taken back are kept no more. */
    void dueAct(String call, FrothShire shire, IntSupplier act) {
        shire.gift(0, 1);
        shire.undo();
        int kept = shire.about(6);
        String before = moment(shire);
        due(call + " is refused", act.getAsInt() == FrothShire.NONE, false);
        String behind = moment(shire);
        due(call + " changes nothing", behind.equals(before), false);
        due(call + ", then about(6)", shire.about(6), kept + 1);
        due(call + ", then about(7)", shire.about(7), 0);
        due(call + ", then undo()", shire.undo(), true);
        due(call + " is taken back", moment(shire).equals(before), true);
        due(call + ", then redo()", shire.redo(), true);
        due(call + " is done again", moment(shire).equals(behind), true);
    }

    /** A text with this FAULT at this place, told to a new shire. */
    void dueFault(String text, int sort, int place) {
        FrothShire shire = new FrothShire();
        due("shire() of " + text, tell(shire, text), FrothShire.NONE);
        due("fault(0) of " + text, shire.fault(0), sort);
        due("fault(1) of " + text, shire.fault(1), place);
    }

    int asked() {
        return asked;
    }

    int wrong() {
        return wrong;
    }

    /** Ends the test: with exit code 1 if an answer was not as due. */
    void end() {
        System.out.println(title + ": " + asked + " answers, " + wrong + " not as due");
        if (wrong != 0) {
            System.exit(1);
        }
    }

    /** Numbers that are not in least .. most: next to them, far off, and such as a mask of bits would let through. */
    static int[] outside(int least, int most) {
        return new int[] {least - 1, most + 1, most + 256, least - 256, least + 65536, Integer.MAX_VALUE,
            Integer.MIN_VALUE, Integer.MIN_VALUE + least};
    }

    /** Numbers that no LORD has, if there are so many: such as a mask of bits would let through among them. */
    static int[] noLords(int lords) {
        return new int[] {-1, lords, 8, 31, 32, 33, -32, 256, 65536, Integer.MAX_VALUE, Integer.MIN_VALUE};
    }

    /** All of a shire that can be seen and is not reckoned anew: what a call that does nothing leaves as it was. */
    static String all(FrothShire shire) {
        StringBuilder text = new StringBuilder(moment(shire));
        for (int what = 6; what < 14; what++) {
            text.append(shire.about(what)).append(' ');
        }
        for (int i = 0; i < shire.about(12); i++) {
            text.append(shire.lies(i)).append(' ');
        }
        return text.toString();
    }

    /** What ACTS change, and what follows from it. */
    static String moment(FrothShire shire) {
        StringBuilder text = new StringBuilder();
        for (int what = 0; what < 6; what++) {
            text.append(shire.about(what)).append(' ');
        }
        for (int lord = 0; lord < shire.about(0); lord++) {
            for (int what = 0; what < 5; what++) {
                text.append(shire.lord(lord, what)).append(' ');
            }
        }
        for (int i = 0; i < 3 * shire.about(2); i++) {
            text.append(shire.corner(i / 3, i % 3)).append(' ');
        }
        return text.toString();
    }

    /** Feeds a text in pieces of twenty bytes. */
    static void feed(FrothShire shire, String text) {
        for (int from = 0; from < text.length(); from += 20) {
            shire.feed(four(text, from), four(text, from + 4), four(text, from + 8), four(text, from + 12),
                    four(text, from + 16));
        }
        shire.end(text.length());
    }

    /** Four bytes of a text as a number; 0 for what is behind its end. */
    static int four(String text, int from) {
        int number = 0;
        for (int i = from; i < from + 4; i++) {
            number = number << 8 | (i < text.length() ? text.charAt(i) & 255 : 0);
        }
        return number;
    }

    static int tell(FrothShire shire, String text) {
        feed(shire, text);
        return shire.shire();
    }

    static FrothShire told(String text) {
        FrothShire shire = new FrothShire();
        if (tell(shire, text) == FrothShire.NONE) {
            System.out.println("a test tells what is no shire: fault " + shire.fault(0) + " at " + shire.fault(1)
                    + " of " + text);
            System.exit(1);
        }
        return shire;
    }
}
