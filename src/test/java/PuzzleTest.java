/** Promises 19 to 24 and 37: who BORDERS whom, and what lies there. */
public final class PuzzleTest {
    private static final String TWO = "lord a size 1;lord b size 2;";
    private static final String THREE = TWO + "lord c size 3;";
    private static final String FIVE = THREE + "lord d size 4 at a b c;lord e size 5 at a b c;";
    // an octahedron: a and f, b and c, d and e do not BORDER
    private static final String OCTAHEDRON = FIVE + "lord f size 6 at b c d;flip b c;";
    private static final String SIX = FIVE + "lord f size 6 at a b d;";
    // f lies far from e, with d and g between
    private static final String EIGHT = FIVE + "lord f size 6 at a b d;lord g size 7 at a d f;lord h size 8 at a d g;";
    private static final Calls CALLS = new Calls("PuzzleTest");

    public static void main(String[] args) {
        promise19();
        promise20();
        promise21();
        promise22();
        promise23();
        promise24();
        promise37();
        CALLS.end();
    }

    private static void promise19() {
        FrothShire shire = Calls.told(EIGHT);
        CALLS.due("far(0, 0)", shire.far(0, 0), 0);
        CALLS.due("far(0, 1)", shire.far(0, 1), 1);
        CALLS.due("far(3, 4)", shire.far(3, 4), 2);
        CALLS.due("far(7, 4)", shire.far(7, 4), 2);
        CALLS.due("far(7, 1)", shire.far(7, 1), 2);
        CALLS.due("far(8, 0)", shire.far(8, 0), -1);
        CALLS.due("far(0, -1)", shire.far(0, -1), -1);
        shire = Calls.told(FIVE + "lord f size 1 at a b d;flip a b;");
        CALLS.due("far(0, 1) behind a flip", shire.far(0, 1), 2);
        shire = Calls.told(OCTAHEDRON + "lord g size 1 at a b d;lord h size 1 at c e f;");
        CALLS.due("far(6, 7)", shire.far(6, 7), 3);
        CALLS.due("far(7, 6)", shire.far(7, 6), 3);
        shire.pop(0, 6);
        CALLS.due("far(6, 6) when he is gone", shire.far(6, 6), -1);
        CALLS.due("far(0, 6) when he is gone", shire.far(0, 6), -1);
        CALLS.due("far(0, 1) of two", Calls.told(TWO).far(0, 1), -1);
        CALLS.due("far(1, 1) of two", Calls.told(TWO).far(1, 1), 0);
    }

    private static void promise20() {
        FrothShire shire = new FrothShire();
        CALLS.due("banners() of none", shire.banners(), 0);
        CALLS.dueLying("banners() of none", shire);
        shire = Calls.told(TWO);
        CALLS.due("banners() of two", shire.banners(), 1);
        CALLS.dueLying("banners() of two", shire, 0, 0);
        shire = Calls.told(THREE);
        CALLS.due("banners() of three", shire.banners(), 3);
        CALLS.dueLying("banners() of three", shire, 0, 1, 2);
        shire = Calls.told(OCTAHEDRON);
        CALLS.due("banners() of an octahedron", shire.banners(), 3);
        CALLS.dueLying("banners() of an octahedron", shire, 0, 1, 1, 2, 2, 0);
        shire.pop(1, 0);
        CALLS.due("banners() when one is gone", shire.banners(), 4);
        CALLS.dueLying("banners() when one is gone", shire, -1, 0, 1, 2, 2, 3);
        // taking the least colour at once would need a fifth one
        shire = Calls.told(THREE + "lord d size 4 at b a c;lord e size 3 at c a d;lord f size 3 at e a c;flip e c;");
        CALLS.due("banners() of six", shire.banners(), 4);
        CALLS.dueLying("banners() of six", shire, 0, 1, 2, 3, 2, 1);
    }

    private static void promise21() {
        FrothShire shire = new FrothShire();
        CALLS.due("peace() of none", shire.peace(), 0);
        CALLS.dueLying("peace() of none", shire);
        shire = Calls.told(TWO);
        CALLS.due("peace() of two", shire.peace(), 0);
        CALLS.dueLying("peace() of two", shire, -1, -1);
        shire = Calls.told(THREE);
        CALLS.due("peace() of three", shire.peace(), 1);
        CALLS.dueLying("peace() of three", shire, 1, 0, -1);
        shire = Calls.told(OCTAHEDRON);
        CALLS.due("peace() of an octahedron", shire.peace(), 3);
        CALLS.dueLying("peace() of an octahedron", shire, 1, 0, 3, 2, 5, 4);
        shire.pop(1, 0);
        CALLS.due("peace() when one is gone", shire.peace(), 2);
        CALLS.dueLying("peace() when one is gone", shire, -1, 2, 1, 5, -1, 3);
        // c takes f, not d at once: so three walls, not two
        shire = Calls.told(THREE + "lord d size 5 at c a b;lord e size 5 at a d c;lord f size 4 at a b c;");
        CALLS.due("peace() of six", shire.peace(), 3);
        CALLS.dueLying("peace() of six", shire, 1, 0, 5, 4, 3, 2);
    }

    private static void promise22() {
        CALLS.due("hermits(0) of none", new FrothShire().hermits(0), 0);
        CALLS.due("hermits(1) of none", new FrothShire().hermits(1), 0);
        CALLS.due("hermits(1) of two", Calls.told(TWO).hermits(1), 3);
        CALLS.due("hermits(1) of three", Calls.told(THREE).hermits(1), 1);
        FrothShire shire = Calls.told(OCTAHEDRON);
        CALLS.due("hermits(0) of an octahedron", shire.hermits(0), 2);
        CALLS.due("hermits(1) of an octahedron", shire.hermits(1), 6);
        CALLS.due("hermits(2)", shire.hermits(2), -1);
        CALLS.due("hermits(-1)", shire.hermits(-1), -1);
        // c, f, h, or e, f, h
        shire = Calls.told(EIGHT);
        CALLS.due("hermits(0) of eight", shire.hermits(0), 3);
        CALLS.due("hermits(1) of eight", shire.hermits(1), 164);
        shire.pop(0, 7);
        CALLS.due("hermits(0) when one is gone", shire.hermits(0), 2);
        CALLS.due("hermits(1) when one is gone", shire.hermits(1), 24);
    }

    private static void promise23() {
        FrothShire shire = Calls.told(OCTAHEDRON);
        CALLS.due("cut(0, 5, 0)", shire.cut(0, 5, 0), 4);
        CALLS.due("cut(0, 5, 1)", shire.cut(0, 5, 1), 30);
        CALLS.due("cut(0, 1, 0): they BORDER", shire.cut(0, 1, 0), -1);
        CALLS.due("cut(0, 0, 0)", shire.cut(0, 0, 0), -1);
        CALLS.due("cut(0, 6, 0)", shire.cut(0, 6, 0), -1);
        CALLS.due("cut(-1, 0, 0)", shire.cut(-1, 0, 0), -1);
        CALLS.due("cut(0, 5, 2)", shire.cut(0, 5, 2), -1);
        CALLS.due("cut(0, 5, -1)", shire.cut(0, 5, -1), -1);
        // e is parted by a, b, c; h by a, d, g: of like ones the least
        shire = Calls.told(EIGHT);
        CALLS.due("cut(4, 7, 0)", shire.cut(4, 7, 0), 3);
        CALLS.due("cut(4, 7, 1)", shire.cut(4, 7, 1), 7);
        CALLS.due("cut(7, 4, 1)", shire.cut(7, 4, 1), 7);
        CALLS.due("cut(2, 7, 1)", shire.cut(2, 7, 1), 11);
        shire.pop(0, 7);
        CALLS.due("cut(4, 7, 0) when one is gone", shire.cut(4, 7, 0), -1);
        CALLS.due("cut(0, 1, 0) of two", Calls.told(TWO).cut(0, 1, 0), 0);
        CALLS.due("cut(0, 1, 1) of two", Calls.told(TWO).cut(0, 1, 1), 0);
    }

    private static void promise24() {
        FrothShire shire = Calls.told(OCTAHEDRON);
        CALLS.due("ring(0)", shire.ring(0), 4);
        CALLS.dueLying("ring(0)", shire, 1, 3, 2, 4);
        CALLS.due("ring(3)", shire.ring(3), 4);
        CALLS.dueLying("ring(3)", shire, 0, 1, 5, 2);
        for (int none : new int[] {6, -1, 8, Integer.MIN_VALUE, Integer.MAX_VALUE}) {
            shire.ring(3);
            CALLS.due("ring(" + none + ")", shire.ring(none), -1);
            CALLS.dueLying("ring(" + none + "): nothing lies there", shire);
        }
        shire.banners();
        CALLS.due("ring(6) behind banners()", shire.ring(6), -1);
        CALLS.dueLying("ring(6) behind banners(): nothing lies there", shire);
        // b BORDERS c and d, who do not lie next to him about a
        shire = Calls.told(SIX);
        CALLS.due("ring(0) of six", shire.ring(0), 5);
        CALLS.dueLying("ring(0) of six", shire, 1, 4, 2, 3, 5);
        shire.pop(0, 5);
        CALLS.due("ring(5) when he is gone", shire.ring(5), -1);
        CALLS.dueLying("ring(5) when he is gone: nothing lies there", shire);
        CALLS.due("ring(3)", shire.ring(3), 3);
        CALLS.dueLying("ring(3)", shire, 0, 1, 2);
        shire = Calls.told(THREE);
        CALLS.due("ring(1) of three", shire.ring(1), 2);
        CALLS.dueLying("ring(1) of three", shire, 0, 2);
        shire = Calls.told(TWO);
        CALLS.due("ring(1) of two", shire.ring(1), 0);
        CALLS.dueLying("ring(1) of two", shire);
    }

    private static void promise37() {
        FrothShire shire = Calls.told(OCTAHEDRON);
        CALLS.due("lies(0) at first", shire.lies(0), -2);
        shire.banners();
        CALLS.due("lies(5)", shire.lies(5), 0);
        CALLS.due("lies(6)", shire.lies(6), -2);
        CALLS.due("lies(-1)", shire.lies(-1), -2);
        CALLS.due("lies(2147483647)", shire.lies(Integer.MAX_VALUE), -2);
        CALLS.due("lies(-2147483648)", shire.lies(Integer.MIN_VALUE), -2);
        // less lies there behind a shorter answer; ACTS and other questions change nothing of it
        shire.ring(0);
        shire.season();
        shire.hermits(0);
        shire.undo();
        CALLS.dueLying("ring(0), ACTS", shire, 1, 3, 2, 4);
    }
}
