/** Promises 6 to 8, 28 to 35 and 46: what is now. */
public final class NowTest {
    private static final String THREE = "lord a size 1;lord b size 2;lord c size 3;";
    private static final String FOUR = THREE + "lord d size 4 at a b c;";
    private static final String FIVE = FOUR + "lord e size 5 at a b c;";
    // SIDES 5, 5, 4, 4, 3, 3: f lies between a, b and d
    private static final String SIX = FIVE + "lord f size 6 at a b d;";
    private static final Calls CALLS = new Calls("NowTest");

    public static void main(String[] args) {
        promise6();
        promise7();
        promise8();
        promise28();
        promise29();
        promise30();
        promise31();
        promise32();
        promise33();
        promise34();
        promise35();
        promise46();
        CALLS.end();
    }

    private static void promise6() {
        FrothShire shire = Calls.told(SIX);
        int[][] due = {{1, 1, 5, 62, 1}, {1, 2, 5, 61, 1}, {1, 3, 4, 27, 0}, {1, 4, 4, 39, 0}, {1, 5, 3, 7, -1},
            {1, 6, 3, 11, -1}};
        for (int lord = 0; lord < 6; lord++) {
            for (int what = 0; what < 5; what++) {
                CALLS.due("lord(" + lord + ", " + what + ")", shire.lord(lord, what), due[lord][what]);
            }
        }
        CALLS.due("lord(6, 0)", shire.lord(6, 0), -100);
        CALLS.due("lord(8, 0)", shire.lord(8, 0), -100);
        CALLS.due("lord(-1, 0)", shire.lord(-1, 0), -100);
        CALLS.due("lord(0, 5)", shire.lord(0, 5), -100);
        CALLS.due("lord(0, -1)", shire.lord(0, -1), -100);
        shire.pop(0, 5);
        for (int what = 0; what < 5; what++) {
            CALLS.due("lord(5, " + what + ") when he is gone", shire.lord(5, what), 0);
        }
        shire = Calls.told("lord a size 7;grows near+9;");
        CALLS.due("lord(0, 2) alone", shire.lord(0, 2), 0);
        CALLS.due("lord(0, 4) alone", shire.lord(0, 4), 9);
        CALLS.due("growth of 999", Calls.told("lord a size 999;grows size;").lord(0, 4), 99);
        CALLS.due("lord(0, 2) of three", Calls.told(THREE).lord(0, 2), 2);
        CALLS.due("lord(0, 3) of three", Calls.told(THREE).lord(0, 3), 6);
    }

    private static void promise7() {
        FrothShire shire = Calls.told(SIX);
        int[] due = {0, 1, 4, 0, 1, 5, 0, 2, 3, 0, 2, 4, 0, 3, 5, 1, 2, 3, 1, 2, 4, 1, 3, 5};
        for (int i = 0; i < due.length; i++) {
            CALLS.due("corner(" + i / 3 + ", " + i % 3 + ")", shire.corner(i / 3, i % 3), due[i]);
        }
        CALLS.due("corner(8, 0)", shire.corner(8, 0), -1);
        CALLS.due("corner(-1, 0)", shire.corner(-1, 0), -1);
        CALLS.due("corner(12, 0)", shire.corner(12, 0), -1);
        CALLS.due("corner(0, 3)", shire.corner(0, 3), -1);
        CALLS.due("corner(0, -1)", shire.corner(0, -1), -1);
        // b, f become one who is the last of these: the order is by his number now
        shire.pop(5, 1);
        int[] then = {0, 2, 3, 0, 2, 4, 0, 3, 5, 0, 4, 5, 2, 3, 5, 2, 4, 5};
        for (int i = 0; i < then.length; i++) {
            CALLS.due("then corner(" + i / 3 + ", " + i % 3 + ")", shire.corner(i / 3, i % 3), then[i]);
        }
        CALLS.due("then corner(6, 0)", shire.corner(6, 0), -1);
        shire = Calls.told(THREE);
        CALLS.due("corner(1, 2) of three", shire.corner(1, 2), 2);
        CALLS.due("corner(2, 0) of three", shire.corner(2, 0), -1);
        CALLS.due("corner(0, 0) of two", Calls.told("lord a size 1;lord b size 1;").corner(0, 0), -1);
    }

    private static void promise8() {
        FrothShire shire = Calls.told(SIX);
        int[][] due = {{-1, 3, 3, 3, 5, 5}, {3, -1, 3, 3, 5, 5}, {3, 3, -1, 5, 5, 0}, {3, 3, 5, -1, 0, 5},
            {5, 5, 5, 0, -1, 0}, {5, 5, 0, 5, 0, -1}};
        for (int a = 0; a < 6; a++) {
            for (int b = 0; b < 6; b++) {
                CALLS.due("wall(" + a + ", " + b + ")", shire.wall(a, b), due[a][b]);
            }
        }
        CALLS.due("wall(0, 6)", shire.wall(0, 6), -1);
        CALLS.due("wall(-1, 0)", shire.wall(-1, 0), -1);
        CALLS.due("wall(0, 8)", shire.wall(0, 8), -1);
        shire.pop(0, 5);
        CALLS.due("wall(0, 5) when one is gone", shire.wall(0, 5), -1);
        CALLS.due("wall(5, 0) when one is gone", shire.wall(5, 0), -1);
        CALLS.due("wall(0, 1) of three", Calls.told(THREE).wall(0, 1), 1);
        CALLS.due("wall(0, 1) of four", Calls.told(FOUR).wall(0, 1), 5);
        CALLS.due("wall(0, 1) of two", Calls.told("lord a size 1;lord b size 1;").wall(0, 1), 0);
    }

    private static void promise28() {
        CALLS.due("thirds() of two", Calls.told("lord a size 1;lord b size 1;").thirds(), 0);
        CALLS.due("thirds() of three", Calls.told(THREE).thirds(), 0);
        CALLS.due("thirds() of four", Calls.told(FOUR).thirds(), 15);
        CALLS.due("thirds() of six", Calls.told(SIX).thirds(), 48);
        FrothShire shire = Calls.told(FOUR);
        shire.pop(0, 3);
        CALLS.due("thirds() of three again", shire.thirds(), 0);
    }

    private static void promise29() {
        CALLS.due("sleepers() of six", Calls.told(SIX).sleepers(), 12);
        CALLS.due("sleepers() by size", Calls.told(SIX + "grows size%2;").sleepers(), 42);
        FrothShire shire = Calls.told(SIX + "grows 0;");
        CALLS.due("sleepers() of all", shire.sleepers(), 63);
        shire.pop(0, 5);
        CALLS.due("sleepers() when one is gone", shire.sleepers(), 31);
    }

    private static void promise30() {
        CALLS.due("king() of none", new FrothShire().king(), -1);
        CALLS.due("king() of two", Calls.told("lord a size 1;lord b size 1;").king(), 0);
        CALLS.due("king() of six", Calls.told(SIX).king(), 0);
        FrothShire shire = Calls.told(SIX + "flip a c;");
        CALLS.due("king() behind a flip", shire.king(), 1);
        shire = Calls.told(FOUR);
        shire.pop(3, 0);
        CALLS.due("king() when the first is gone", shire.king(), 1);
    }

    private static void promise31() {
        CALLS.due("restless() of four", Calls.told(FOUR).restless(), 0);
        CALLS.due("restless() of five", Calls.told(FIVE).restless(), 3);
        CALLS.due("restless() of six", Calls.told(SIX).restless(), 5);
        CALLS.due("restless() of six, flipped", Calls.told(SIX + "flip a b;").restless(), 12);
    }

    private static void promise32() {
        CALLS.due("brides() of three", Calls.told(THREE).brides(), 0);
        CALLS.due("brides() of four", Calls.told(FOUR).brides(), 6);
        CALLS.due("brides() of five", Calls.told(FIVE).brides(), 6);
        CALLS.due("brides() of six", Calls.told(SIX).brides(), 7);
        CALLS.due("brides() of six, flipped", Calls.told(SIX + "flip a b;").brides(), 12);
    }

    private static void promise33() {
        CALLS.due("acres() of none", new FrothShire().acres(), 0);
        FrothShire shire = Calls.told(SIX);
        CALLS.due("acres() of six", shire.acres(), 21);
        shire.pop(0, 5);
        CALLS.due("acres() behind a pop", shire.acres(), 21);
        shire.gift(2, 9);
        CALLS.due("acres() behind a gift", shire.acres(), 30);
    }

    private static void promise34() {
        FrothShire shire = Calls.told(SIX + "grows near-size*4;");
        CALLS.due("law(0)", shire.law(0), 0);
        CALLS.due("law(1)", shire.law(1), 2);
        CALLS.due("law(999)", shire.law(999), 2);
        CALLS.due("law(-1)", shire.law(-1), -1);
        CALLS.due("law(1000)", shire.law(1000), -1);
        CALLS.due("lord(0, 1) stays", shire.lord(0, 1), 1);
        shire = Calls.told(SIX + "grows size>6 and season=1 and lords=5;");
        CALLS.due("law(7) at first", shire.law(7), 0);
        shire.season();
        shire.pop(0, 5);
        CALLS.due("law(6) of five later", shire.law(6), 0);
        CALLS.due("law(7) of five later", shire.law(7), 5);
    }

    private static void promise35() {
        FrothShire shire = Calls.told(SIX);
        CALLS.due("aunts(0, 1)", shire.aunts(0, 1), 4);
        CALLS.due("aunts(4, 5)", shire.aunts(4, 5), 2);
        CALLS.due("aunts(5, 2)", shire.aunts(5, 2), 3);
        CALLS.due("aunts(0, 0)", shire.aunts(0, 0), -1);
        CALLS.due("aunts(0, 6)", shire.aunts(0, 6), -1);
        CALLS.due("aunts(-1, 0)", shire.aunts(-1, 0), -1);
        shire.pop(0, 5);
        CALLS.due("aunts(0, 5) when one is gone", shire.aunts(0, 5), -1);
        CALLS.due("aunts(0, 1) when one is gone", shire.aunts(0, 1), 3);
        CALLS.due("aunts(0, 1) of two", Calls.told("lord a size 1;lord b size 1;").aunts(0, 1), 0);
    }

    private static void promise46() {
        FrothShire shire = Calls.told(SIX + "straw 12;draw 34;grows (sides)-4;");
        shire.later(7);
        shire.pop(0, 5);
        shire.season();
        shire.gift(0, 1);
        shire.undo();
        shire.seen(1, 1, true);
        shire.seen(2, 2, true);
        shire.untell(0);
        shire.ring(0);
        shire.feed(0, 0, 0, 0, 0);
        int[] due = {6, 31, 6, 9, 1, 729, 2, 1, 2, 7, 20, 3, 4, 12};
        for (int what = 0; what < due.length; what++) {
            CALLS.due("about(" + what + ")", shire.about(what), due[what]);
        }
        CALLS.due("about(14)", shire.about(14), -1);
        CALLS.due("about(-1)", shire.about(-1), -1);
    }
}
