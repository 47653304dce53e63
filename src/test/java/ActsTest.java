/** Promises 9 to 14, 44 and 45: ACTS, UNDO and REDO, BOXES. */
public final class ActsTest {
    private static final String THREE = "lord a size 9;lord b size 5;lord c size 7;";
    private static final String FIVE = THREE + "lord d size 3 at a b c;lord e size 4 at a b c;";
    // an octahedron: each has four SIDES; a and f, b and c, d and e do not BORDER
    private static final String SIX = FIVE + "lord f size 6 at b c d;flip b c;";
    private static final Calls CALLS = new Calls("ActsTest");

    public static void main(String[] args) {
        promise9();
        promise9Vanishing();
        promise9Straws();
        promise10();
        promise11();
        promise12();
        promise13();
        promise14();
        promise44();
        promise45();
        CALLS.end();
    }

    /** All that can be seen of what is now. */
    private static String all(FrothShire shire) {
        StringBuilder text = new StringBuilder();
        for (int lord = 0; lord < 8; lord++) {
            for (int what = 0; what < 5; what++) {
                text.append(shire.lord(lord, what)).append(' ');
            }
        }
        for (int i = 0; i < 36; i++) {
            text.append(shire.corner(i / 3, i % 3)).append(' ');
        }
        for (int what = 0; what < 6; what++) {
            text.append(shire.about(what)).append(' ');
        }
        return text.toString();
    }

    private static void dueSizes(String call, FrothShire shire, int... want) {
        for (int lord = 0; lord < want.length; lord++) {
            CALLS.due(call + ", then lord(" + lord + ", 1)", shire.lord(lord, 1), want[lord]);
        }
    }

    private static void promise9() {
        FrothShire shire = Calls.told(FIVE);
        CALLS.due("season()", shire.season(), 0);
        dueSizes("season()", shire, 9, 5, 7, 2, 3);
        CALLS.due("about(4)", shire.about(4), 1);
        CALLS.due("about(5)", shire.about(5), 71);
        CALLS.due("about(6)", shire.about(6), 1);
        CALLS.due("season()", shire.season(), 0);
        CALLS.due("season()", shire.season(), 8);
        CALLS.due("lord(3, 0)", shire.lord(3, 0), 0);
        CALLS.due("season()", shire.season(), 16);
        CALLS.due("about(1)", shire.about(1), 7);
        CALLS.due("about(2)", shire.about(2), 2);
        for (int i = 0; i < 6; i++) {
            CALLS.due("season() of three", shire.season(), 0);
        }
        // three stay, of whatever SIZE: nobody can VANISH
        dueSizes("season() of three", shire, 0, 0, 0);
        CALLS.due("about(1)", shire.about(1), 7);
        // all by what was so ahead of it: near is of the SIZES of before
        shire = Calls.told(THREE + "grows near-12;");
        shire.season();
        dueSizes("season() by near", shire, 9, 9, 9);
        shire = Calls.told("lord a size 990;lord b size 3;lord c size 0;grows (size>9)*50-(size<9)*4;");
        shire.season();
        dueSizes("season() within 0 .. 999", shire, 999, 0, 0);
        shire = Calls.told("lord a size 500;lord b size 100;grows 9999-(size<200)*9999*2;");
        shire.season();
        dueSizes("season() by 99 at most", shire, 599, 1);
    }

    /** Who has no SIZE but many SIDES loses one by one; LORD by LORD. */
    private static void promise9Vanishing() {
        String zero = SIX.replace("lord d size 3", "lord d size 0") + "grows 0;";
        FrothShire shire = Calls.told(zero);
        CALLS.due("lord(3, 2) at first", shire.lord(3, 2), 4);
        CALLS.due("season(): he loses a side", shire.season(), 0);
        CALLS.due("lord(3, 2) then", shire.lord(3, 2), 3);
        CALLS.due("lord(3, 3) then", shire.lord(3, 3), 2 + 4 + 32);
        CALLS.due("season(): he vanishes", shire.season(), 8);
        CALLS.due("about(2)", shire.about(2), 6);
        CALLS.due("season(): nobody else", shire.season(), 0);
        // two of no SIZE: d gives up a to e, then e gives up b to d, so they never lose a side
        shire = Calls.told(THREE + "lord d size 0 at a b c;lord e size 0 at a b d;grows 0;");
        CALLS.due("lord(3, 2) of two", shire.lord(3, 2), 4);
        CALLS.due("lord(4, 3) of two", shire.lord(4, 3), 11);
        CALLS.due("season() of two", shire.season(), 0);
        CALLS.due("lord(3, 2) of two then", shire.lord(3, 2), 4);
        CALLS.due("lord(4, 3) of two then", shire.lord(4, 3), 13);
        // a gives up b, so b can VANISH, so c can; then d, e can't
        String many = "lord a size 0;lord b size 0;lord c size 0;lord d size 0 at a b c;lord e size 0 at a b c;grows 0;";
        shire = Calls.told(many);
        CALLS.due("season() of all", shire.season(), 6);
        CALLS.due("about(1) of all", shire.about(1), 25);
        CALLS.due("season() of three", shire.season(), 0);
    }

    private static void promise9Straws() {
        // 0 * 137 + 71 = 71: 71 % 100 is below 72, not below 71; CORNER 71 % 6 = 5 is 1 2 4: b c is FLIPPED
        FrothShire shire = Calls.told(FIVE + "grows 0;straw 72;");
        shire.season();
        CALLS.due("about(5)", shire.about(5), 71);
        CALLS.due("wall(1, 2) behind a straw", shire.wall(1, 2), 0);
        CALLS.due("wall(3, 4) behind a straw", shire.wall(3, 4), 3);
        CALLS.due("wall(0, 1) behind a straw", shire.wall(0, 1), 5);
        shire = Calls.told(FIVE + "grows 0;straw 71;");
        shire.season();
        CALLS.due("wall(1, 2) without a straw", shire.wall(1, 2), 3);
        CALLS.due("about(5) without a straw", shire.about(5), 71);
        shire.season();
        CALLS.due("about(5) again", shire.about(5), 798);
        // 999 * 137 + 71 = 136934: 934 % 100 is 34; CORNER 934 % 6 = 4 is 1 2 3
        shire = Calls.told(FIVE + "grows 0;straw 35;draw 999;");
        shire.season();
        CALLS.due("about(5)", shire.about(5), 934);
        CALLS.due("wall(1, 2) behind a straw", shire.wall(1, 2), 0);
        // what the straw finds can't be FLIPPED
        shire = Calls.told(THREE + "straw 100;");
        CALLS.due("season() of three", shire.season(), 0);
        CALLS.due("about(3)", shire.about(3), 3);
        CALLS.due("season() without CORNERS", Calls.told("straw 100;lord a size 1;").season(), 0);
        // the straw comes behind the vanishing, by CORNERS of then
        shire = Calls.told(FIVE.replace("lord e size 4", "lord e size 0") + "lord f size 9 at a b d;grows 0;straw 100;");
        CALLS.due("season() with both", shire.season(), 16);
        CALLS.due("wall(1, 2) behind both", shire.wall(1, 2), 5);
        CALLS.due("wall(1, 3) behind both", shire.wall(1, 3), 0);
        CALLS.due("wall(2, 5) behind both", shire.wall(2, 5), 3);
    }

    private static void promise10() {
        FrothShire shire = Calls.told(FIVE);
        CALLS.due("flip(3, 4)", shire.flip(3, 4), -1);
        CALLS.due("flip(0, 3)", shire.flip(0, 3), -1);
        CALLS.due("flip(0, 0)", shire.flip(0, 0), -1);
        CALLS.due("flip(0, 5)", shire.flip(0, 5), -1);
        CALLS.due("flip(-1, 0)", shire.flip(-1, 0), -1);
        CALLS.due("flip(8, 0)", shire.flip(8, 0), -1);
        CALLS.due("about(6)", shire.about(6), 0);
        CALLS.due("flip(2, 1)", shire.flip(2, 1), 28);
        CALLS.due("about(6)", shire.about(6), 1);
        int[] corners = {0, 1, 3, 0, 1, 4, 0, 2, 3, 0, 2, 4, 1, 3, 4, 2, 3, 4};
        for (int i = 0; i < 18; i++) {
            CALLS.due("corner() number " + i / 3 + " behind flip(2, 1)", shire.corner(i / 3, i % 3), corners[i]);
        }
        CALLS.due("flip(4, 3)", shire.flip(4, 3), 10);
        CALLS.due("flip(0, 1) of four", Calls.told(THREE + "lord d size 1 at a b c;").flip(0, 1), -1);
    }

    private static void promise11() {
        FrothShire shire = Calls.told(FIVE);
        CALLS.due("pop(0, 1): three aunts", shire.pop(0, 1), -1);
        CALLS.due("pop(3, 4)", shire.pop(3, 4), -1);
        CALLS.due("pop(0, 0)", shire.pop(0, 0), -1);
        CALLS.due("pop(0, 5)", shire.pop(0, 5), -1);
        CALLS.due("pop(-1, 0)", shire.pop(-1, 0), -1);
        CALLS.due("about(6)", shire.about(6), 0);
        CALLS.due("pop(3, 0)", shire.pop(3, 0), 12);
        CALLS.due("about(1)", shire.about(1), 30);
        CALLS.due("about(6)", shire.about(6), 1);
        int[] corners = {1, 2, 3, 1, 2, 4, 1, 3, 4, 2, 3, 4};
        for (int i = 0; i < 12; i++) {
            CALLS.due("corner() number " + i / 3 + " behind pop(3, 0)", shire.corner(i / 3, i % 3), corners[i]);
        }
        CALLS.due("lord(0, 1)", shire.lord(0, 1), 0);
        CALLS.due("pop(1, 0) when one is gone", shire.pop(1, 0), -1);
        CALLS.due("pop(1, 2)", shire.pop(1, 2), 12);
        CALLS.due("pop(1, 3) of three", shire.pop(1, 3), -1);
        CALLS.due("about(2)", shire.about(2), 2);
        shire = Calls.told("lord a size 999;lord b size 1;lord c size 1;lord d size 9 at a b c;");
        CALLS.due("pop(1, 0)", shire.pop(1, 0), 999);
    }

    private static void promise12() {
        FrothShire shire = Calls.told(FIVE + "lord f size 950 at a b d;");
        CALLS.due("gift(0, 0)", shire.gift(0, 0), -1);
        CALLS.due("gift(0, 100)", shire.gift(0, 100), -1);
        CALLS.due("gift(0, -1)", shire.gift(0, -1), -1);
        CALLS.due("gift(6, 1)", shire.gift(6, 1), -1);
        CALLS.due("gift(-1, 1)", shire.gift(-1, 1), -1);
        CALLS.due("about(6)", shire.about(6), 0);
        CALLS.due("gift(0, 99)", shire.gift(0, 99), 108);
        CALLS.due("gift(5, 99)", shire.gift(5, 99), 999);
        CALLS.due("gift(5, 1)", shire.gift(5, 1), -1);
        CALLS.due("about(6)", shire.about(6), 2);
        shire.pop(0, 3);
        shire.pop(0, 4);
        CALLS.due("gift(4, 1) when he is gone", shire.gift(4, 1), -1);
    }

    private static void promise13() {
        FrothShire shire = Calls.told(FIVE + "straw 50;draw 3;");
        CALLS.due("undo() of nothing", shire.undo(), false);
        String[] states = new String[6];
        states[0] = all(shire);
        shire.season();
        states[1] = all(shire);
        shire.flip(0, 1);
        states[2] = all(shire);
        shire.pop(0, 3);
        states[3] = all(shire);
        shire.gift(1, 7);
        states[4] = all(shire);
        shire.season();
        states[5] = all(shire);
        for (int i = 4; i >= 0; i--) {
            CALLS.due("undo() to " + i, shire.undo(), true);
            CALLS.due("all is as it was at " + i, all(shire).equals(states[i]), true);
            CALLS.due("about(6) at " + i, shire.about(6), i);
            CALLS.due("about(7) at " + i, shire.about(7), 5 - i);
        }
        CALLS.due("undo() beyond", shire.undo(), false);
        // 40 are kept
        shire = Calls.told(FIVE);
        for (int i = 1; i <= 43; i++) {
            shire.gift(0, 1);
            CALLS.due("about(6) behind " + i, shire.about(6), Math.min(40, i));
        }
        for (int i = 0; i < 40; i++) {
            CALLS.due("undo() number " + i, shire.undo(), true);
            CALLS.due("lord(0, 1) behind undo() number " + i, shire.lord(0, 1), 51 - i);
        }
        CALLS.due("undo() number 41", shire.undo(), false);
        CALLS.due("lord(0, 1) at the oldest", shire.lord(0, 1), 12);
        CALLS.due("about(7) at the oldest", shire.about(7), 40);
    }

    private static void promise14() {
        FrothShire shire = Calls.told(FIVE + "straw 50;draw 3;");
        CALLS.due("redo() of nothing", shire.redo(), false);
        String[] states = new String[4];
        states[0] = all(shire);
        shire.pop(0, 3);
        states[1] = all(shire);
        shire.season();
        states[2] = all(shire);
        shire.gift(1, 7);
        states[3] = all(shire);
        CALLS.due("redo() when none is taken back", shire.redo(), false);
        shire.undo();
        shire.undo();
        shire.undo();
        for (int i = 1; i < 4; i++) {
            CALLS.due("redo() to " + i, shire.redo(), true);
            CALLS.due("all is as it was at " + i, all(shire).equals(states[i]), true);
            CALLS.due("about(6) at " + i, shire.about(6), i);
            CALLS.due("about(7) at " + i, shire.about(7), 3 - i);
        }
        CALLS.due("redo() beyond", shire.redo(), false);
        shire.undo();
        shire.undo();
        CALLS.due("gift(1, 0) is no ACT", shire.gift(1, 0), -1);
        CALLS.due("flip(1, 1) is no ACT", shire.flip(1, 1), -1);
        CALLS.due("about(7) yet", shire.about(7), 2);
        shire.gift(1, 1);
        CALLS.due("about(7) behind another ACT", shire.about(7), 0);
        CALLS.due("redo() behind another ACT", shire.redo(), false);
        CALLS.due("about(6) behind another ACT", shire.about(6), 2);
        shire.undo();
        CALLS.due("all is as it was at 1", all(shire).equals(states[1]), true);
        // 40 redone, when the oldest are gone
        shire = Calls.told(FIVE);
        for (int i = 0; i < 45; i++) {
            shire.gift(0, 1);
        }
        for (int i = 0; i < 45; i++) {
            shire.undo();
        }
        for (int i = 0; i < 45; i++) {
            CALLS.due("redo() number " + i, shire.redo(), i < 40);
        }
        CALLS.due("lord(0, 1) behind all", shire.lord(0, 1), 54);
    }

    private static void promise44() {
        FrothShire shire = Calls.told(FIVE + "straw 50;draw 3;");
        CALLS.due("image(-1)", shire.image(-1), -1);
        CALLS.due("image(3)", shire.image(3), -1);
        CALLS.due("image(0)", shire.image(0), 0);
        String first = all(shire);
        shire.season();
        shire.season();
        CALLS.due("image(2)", shire.image(2), 2);
        CALLS.due("about(6): an image is no ACT", shire.about(6), 2);
        String second = all(shire);
        shire.pop(0, 3);
        shire.gift(1, 5);
        CALLS.due("back(0)", shire.back(0), 0);
        CALLS.due("all is as at first", all(shire).equals(first), true);
        CALLS.due("back(2)", shire.back(2), 2);
        CALLS.due("all is as then", all(shire).equals(second), true);
        // a BOX is used again
        shire.gift(1, 5);
        CALLS.due("image(0) anew", shire.image(0), 2);
        shire.season();
        CALLS.due("back(0) anew", shire.back(0), 2);
        CALLS.due("lord(1, 1)", shire.lord(1, 1), 10);
    }

    private static void promise45() {
        FrothShire shire = Calls.told(FIVE + "straw 50;draw 3;");
        CALLS.due("back(0) of nothing", shire.back(0), -1);
        CALLS.due("back(-1)", shire.back(-1), -1);
        CALLS.due("back(3)", shire.back(3), -1);
        shire.gift(0, 1);
        shire.gift(0, 1);
        shire.image(1);
        shire.season();
        shire.undo();
        shire.ring(0);
        CALLS.due("back(0) of nothing yet", shire.back(0), -1);
        CALLS.due("about(6) yet", shire.about(6), 2);
        CALLS.due("about(7) yet", shire.about(7), 1);
        CALLS.due("back(1)", shire.back(1), 0);
        CALLS.due("about(6) behind it", shire.about(6), 0);
        CALLS.due("about(7) behind it", shire.about(7), 0);
        CALLS.due("about(12) behind it", shire.about(12), 4);
        CALLS.due("undo() behind it", shire.undo(), false);
        CALLS.due("redo() behind it", shire.redo(), false);
        // what was kept stays in its BOX, and what is gone on from it does not change it
        shire.gift(0, 50);
        CALLS.due("back(1) again", shire.back(1), 0);
        CALLS.due("lord(0, 1) again", shire.lord(0, 1), 11);
        shire.season();
        CALLS.due("undo() of what is gone on", shire.undo(), true);
        CALLS.due("lord(0, 1) then", shire.lord(0, 1), 11);
    }
}
