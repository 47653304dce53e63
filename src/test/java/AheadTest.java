/** Promises 15 to 18, 25 to 27 and 36: what lies ahead, plans and odds. */
public final class AheadTest {
    private static final String THREE = "lord a size 9;lord b size 5;lord c size 7;";
    private static final String FOUR = THREE + "lord d size 3 at a b c;";
    private static final String FIVE = FOUR + "lord e size 4 at a b c;";
    private static final Calls CALLS = new Calls("AheadTest");

    public static void main(String[] args) {
        promise15();
        promise16();
        promise17();
        promise18();
        promise25();
        promise26();
        promise27();
        noStraws();
        promise36();
        CALLS.end();
    }

    private static void promise15() {
        FrothShire shire = Calls.told(FIVE);
        int[] d = {3, 2, 1, -2, -2};
        int[] a = {9, 9, 9, 9, 8};
        for (int n = 0; n < 5; n++) {
            CALLS.due("will(3, " + n + ", 0)", shire.will(3, n, 0), d[n]);
            CALLS.due("will(0, " + n + ", 0)", shire.will(0, n, 0), a[n]);
        }
        CALLS.due("will(0, 60, 0)", shire.will(0, 60, 0), 0);
        CALLS.due("will(0, 61, 0)", shire.will(0, 61, 0), -1);
        CALLS.due("will(0, -1, 0)", shire.will(0, -1, 0), -1);
        CALLS.due("will(5, 0, 0)", shire.will(5, 0, 0), -1);
        CALLS.due("will(-1, 0, 0)", shire.will(-1, 0, 0), -1);
        CALLS.due("will(0, 0, 2)", shire.will(0, 0, 2), -1);
        CALLS.due("will(0, 0, -1)", shire.will(0, 0, -1), -1);
        CALLS.due("about(4): nothing is done", shire.about(4), 0);
        CALLS.due("about(6): nothing is done", shire.about(6), 0);
        shire.pop(0, 3);
        CALLS.due("will(3, 0, 0) when he is gone", shire.will(3, 0, 0), -2);
        // the first straw flips b c (SEED 71, CORNER 5), so that b grows no more
        shire = Calls.told(FIVE + "grows sides-3;straw 72;");
        CALLS.due("will(1, 2, 0)", shire.will(1, 2, 0), 7);
        CALLS.due("will(1, 2, 1)", shire.will(1, 2, 1), 6);
        CALLS.due("about(5): nothing is done", shire.about(5), 0);
        shire.season();
        shire.season();
        CALLS.due("lord(1, 1) in earnest", shire.lord(1, 1), 6);
        // seasons go on ahead, too
        shire = Calls.told("lord a size 0;grows season;");
        shire.season();
        shire.season();
        CALLS.due("will(0, 3, 0) by season", shire.will(0, 3, 0), 1 + 2 + 3 + 4);
    }

    private static void promise16() {
        FrothShire shire = Calls.told(FIVE);
        int[] a = {4, 4, 4, 3, 2, 2};
        int[] e = {3, 3, 3, 3, 0, 0};
        for (int n = 0; n < 6; n++) {
            CALLS.due("sides(0, " + n + ")", shire.sides(0, n), a[n]);
            CALLS.due("sides(4, " + n + ")", shire.sides(4, n), e[n]);
        }
        CALLS.due("sides(0, 60)", shire.sides(0, 60), 2);
        CALLS.due("sides(0, 61)", shire.sides(0, 61), -1);
        CALLS.due("sides(0, -1)", shire.sides(0, -1), -1);
        CALLS.due("sides(5, 0)", shire.sides(5, 0), -1);
        CALLS.due("sides(-1, 0)", shire.sides(-1, 0), -1);
        shire = Calls.told(FIVE + "grows 0;straw 100;");
        CALLS.due("sides(1, 1): no straws", shire.sides(1, 1), 4);
        CALLS.due("about(4): nothing is done", shire.about(4), 0);
    }

    private static void promise17() {
        FrothShire shire = Calls.told(FIVE);
        int[] due = {31, 31, 31, 23, 7, 7};
        for (int n = 0; n < 6; n++) {
            CALLS.due("left(" + n + ")", shire.left(n), due[n]);
        }
        CALLS.due("left(60)", shire.left(60), 7);
        CALLS.due("left(61)", shire.left(61), -1);
        CALLS.due("left(-1)", shire.left(-1), -1);
        CALLS.due("left(60) of none", new FrothShire().left(60), 0);
        // a straw would flip b c, so that d, who has no SIZE from then on, could not VANISH behind one SEASON more
        shire = Calls.told(FIVE.replace("lord d size 3", "lord d size 2") + "grows 0-(sides=3);straw 72;");
        CALLS.due("left(2): no straws", shire.left(2), 23);
        shire.season();
        CALLS.due("season() with a straw", shire.season(), 0);
    }

    private static void promise18() {
        FrothShire shire = Calls.told(FIVE);
        int[] due = {-1, -1, -1, 3, 4};
        for (int lord = 0; lord < 5; lord++) {
            CALLS.due("ending(" + lord + ")", shire.ending(lord), due[lord]);
        }
        CALLS.due("ending(5)", shire.ending(5), -1);
        CALLS.due("ending(-1)", shire.ending(-1), -1);
        shire.season();
        CALLS.due("ending(3) later", shire.ending(3), 2);
        shire.pop(0, 3);
        CALLS.due("ending(3) when he is gone", shire.ending(3), 0);
        String great = "lord a size 999;lord b size 999;lord c size 999;";
        CALLS.due("ending(3) at 60", Calls.told(great + "lord d size 60 at a b c;").ending(3), 60);
        CALLS.due("ending(3) at 61", Calls.told(great + "lord d size 61 at a b c;").ending(3), -1);
    }

    private static void promise25() {
        FrothShire shire = Calls.told(FIVE);
        CALLS.due("save(3, 0): he does not go", shire.save(3, 0), 4);
        CALLS.due("save(0, 0)", shire.save(0, 0), 3);
        CALLS.due("save(3, 3)", shire.save(3, 3), 24);
        CALLS.due("save(4, 3)", shire.save(4, 3), 3);
        CALLS.due("save(4, 30)", shire.save(4, 30), 32);
        CALLS.due("save(3, 31)", shire.save(3, 31), -1);
        CALLS.due("save(3, -1)", shire.save(3, -1), -1);
        CALLS.due("save(5, 1)", shire.save(5, 1), -1);
        CALLS.due("save(-1, 1)", shire.save(-1, 1), -1);
        CALLS.due("about(1): nothing is done", shire.about(1), 31);
        shire.pop(0, 3);
        CALLS.due("save(3, 0) when he is gone", shire.save(3, 0), -1);
        CALLS.due("save(0, 0) of three", Calls.told(THREE).save(0, 0), -1);
        // all come to nothing at once, and he is the first to go
        shire = Calls.told(FIVE + "flip a b;grows 0-99;");
        CALLS.due("save(0, 1): none can", shire.save(0, 1), -1);
        CALLS.due("save(1, 1): the first goes", shire.save(1, 1), 2);
        CALLS.due("save(0, 0)", shire.save(0, 0), 2);
    }

    private static void promise26() {
        FrothShire shire = Calls.told(FIVE);
        CALLS.due("boost(0, 2, 0)", shire.boost(0, 2, 0), 10);
        CALLS.due("boost(0, 2, 1)", shire.boost(0, 2, 1), 9);
        CALLS.due("boost(0, 0, 0): of like ones the first", shire.boost(0, 0, 0), 1);
        CALLS.due("boost(3, 5, 0)", shire.boost(3, 5, 0), 1);
        CALLS.due("boost(3, 5, 1)", shire.boost(3, 5, 1), 3);
        CALLS.due("boost(1, 3, 0)", shire.boost(1, 3, 0), 2);
        CALLS.due("boost(1, 3, 1)", shire.boost(1, 3, 1), 5);
        CALLS.due("boost(0, 31, 0)", shire.boost(0, 31, 0), -1);
        CALLS.due("boost(0, -1, 0)", shire.boost(0, -1, 0), -1);
        CALLS.due("boost(0, 0, 2)", shire.boost(0, 0, 2), -1);
        CALLS.due("boost(0, 0, -1)", shire.boost(0, 0, -1), -1);
        CALLS.due("boost(5, 0, 0)", shire.boost(5, 0, 0), -1);
        CALLS.due("about(6): nothing is done", shire.about(6), 0);
        CALLS.due("wall(0, 1): nothing is done", shire.wall(0, 1), 3);
        shire.pop(0, 3);
        CALLS.due("boost(3, 0, 0) when he is gone", shire.boost(3, 0, 0), -1);
        CALLS.due("boost(0, 0, 0) when none can be", shire.boost(0, 0, 0), -1);
        CALLS.due("boost(0, 0, 1) when none can be", shire.boost(0, 0, 1), -1);
        shire = Calls.told(FIVE + "grows 0-5;");
        CALLS.due("boost(3, 30, 0): he is gone by each", shire.boost(3, 30, 0), 1);
        CALLS.due("boost(3, 30, 1): he is gone by each", shire.boost(3, 30, 1), 0);
    }

    private static void promise27() {
        FrothShire shire = Calls.told(FIVE);
        CALLS.due("pricks(0, 3)", shire.pricks(0, 3), 3);
        CALLS.dueLying("pricks(0, 3)", shire, -1, -1);
        CALLS.due("pricks(0, 0)", shire.pricks(0, 0), -1);
        CALLS.dueLying("pricks(0, 0)", shire);
        shire.ring(0);
        CALLS.due("pricks(0, 5)", shire.pricks(0, 5), -1);
        CALLS.dueLying("pricks(0, 5)", shire);
        CALLS.due("pricks(-1, 0)", shire.pricks(-1, 0), -1);
        shire.pop(0, 3);
        CALLS.due("pricks(3, 0) when one is gone", shire.pricks(3, 0), -1);
        shire = Calls.told("lord a size 1;lord b size 1;");
        CALLS.due("pricks(0, 1) of two", shire.pricks(0, 1), 1);
        CALLS.dueLying("pricks(0, 1) of two", shire, -1, -1);
        // d takes in a, then f takes in e
        shire = Calls.told(FIVE + "lord f size 4 at b c e;");
        CALLS.due("pricks(3, 5)", shire.pricks(3, 5), 7);
        CALLS.dueLying("pricks(3, 5)", shire, 0, 4);
        CALLS.due("about(1): nothing is done", shire.about(1), 63);
        // the last of eight can be taken in, too
        shire = Calls.told(FOUR + "lord e size 12 at d a b;lord f size 9 at a c b;lord g size 6 at e d a;"
                + "lord h size 0 at c a f;flip f a;flip a b;");
        CALLS.due("pricks(0, 2)", shire.pricks(0, 2), 1);
        CALLS.dueLying("pricks(0, 2)", shire, 7, 3);
        shire = Calls.told(FOUR + "lord e size 1 at c b a;lord f size 1 at d c a;lord g size 9 at c e b;"
                + "lord h size 9 at b a e;flip b e;");
        CALLS.due("pricks(3, 0)", shire.pricks(3, 0), 4);
        CALLS.dueLying("pricks(3, 0)", shire, -1, 7);
        // no RESTS
        shire = Calls.told(FOUR + "lord e size 6 at c d b;lord f size 2 at c b e;lord g size 5 at b c a;");
        shire.ring(0);
        CALLS.due("pricks(5, 6)", shire.pricks(5, 6), 0);
        CALLS.dueLying("pricks(5, 6)", shire);
    }

    /** SEED 400 behind draw 17: CORNER 400 % 6 = 4 is 1 2 3, a straw would flip b c whatever straw tells above 0. */
    private static void noStraws() {
        String five = FIVE + "grows (sides=3)*(0-1)+(sides=4)*2;straw 100;draw 17;";
        FrothShire shire = Calls.told(five);
        CALLS.due("will(1, 2, 0)", shire.will(1, 2, 0), 9);
        CALLS.due("will(1, 2, 1)", shire.will(1, 2, 1), 6);
        CALLS.due("sides(1, 1)", shire.sides(1, 1), 4);
        CALLS.due("left(3)", shire.left(3), 23);
        CALLS.due("ending(3)", shire.ending(3), 3);
        CALLS.due("season() with a straw", shire.season(), 0);
        CALLS.due("lord(1, 2) with a straw", shire.lord(1, 2), 3);
        // an octahedron
        shire = Calls.told(FIVE + "lord f size 1 at b c d;flip b c;grows (sides=3)*(0-1);straw 100;draw 17;");
        CALLS.due("boost(0, 2, 1)", shire.boost(0, 2, 1), 9);
        CALLS.due("boost(5, 2, 0)", shire.boost(5, 2, 0), 1);
        CALLS.due("boost(5, 2, 1)", shire.boost(5, 2, 1), 1);
        CALLS.due("save(5, 3)", shire.save(5, 3), 1);
    }

    private static void promise36() {
        int[][] due = {{0, 1, 1}, {1, 7, 10}, {2, 49, 100}, {3, 343, 1000}, {4, 2401, 10000}};
        FrothShire shire = Calls.told("straw 30;");
        for (int[] one : due) {
            CALLS.due("odds(" + one[0] + ", 0)", shire.odds(one[0], 0), one[1]);
            CALLS.due("odds(" + one[0] + ", 1)", shire.odds(one[0], 1), one[2]);
        }
        CALLS.due("odds(5, 0)", shire.odds(5, 0), -1);
        CALLS.due("odds(-1, 0)", shire.odds(-1, 0), -1);
        CALLS.due("odds(0, 2)", shire.odds(0, 2), -1);
        CALLS.due("odds(0, -1)", shire.odds(0, -1), -1);
        shire = Calls.told("straw 100;");
        CALLS.due("odds(0, 0) of 100", shire.odds(0, 0), 1);
        CALLS.due("odds(4, 0) of 100", shire.odds(4, 0), 0);
        CALLS.due("odds(4, 1) of 100", shire.odds(4, 1), 1);
        shire = new FrothShire();
        CALLS.due("odds(4, 0) of 0", shire.odds(4, 0), 1);
        CALLS.due("odds(4, 1) of 0", shire.odds(4, 1), 1);
        shire = Calls.told("straw 1;");
        CALLS.due("odds(4, 0) of 1", shire.odds(4, 0), 96059601);
        CALLS.due("odds(4, 1) of 1", shire.odds(4, 1), 100000000);
        shire = Calls.told("straw 50;");
        CALLS.due("odds(4, 1) of 50", shire.odds(4, 1), 16);
    }
}
