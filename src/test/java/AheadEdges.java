/** Terms, ==== 3: what is asked of what is now, and of what lies ahead. */
final class AheadEdges {
    private static final String TWO = "lord a size 9;lord b size 5;";
    private static final String THREE = TWO + "lord c size 7;";
    private static final String FOUR = THREE + "lord d size 3 at a b c;";
    // d and e lie on either side of a, b, c
    private static final String FIVE = FOUR + "lord e size 4 at a b c;";
    // an octahedron: a and f, b and c, d and e do not BORDER
    private static final String SIX = FIVE + "lord f size 6 at b c d;flip b c;";
    // a BORDERS all; h lies far from b, c, e, f
    private static final String EIGHT = FIVE + "lord f size 6 at a b d;lord g size 7 at a d f;lord h size 8 at a d g;";

    private AheadEdges() {
    }

    static void all(Edges edges) {
        edges.open("==== 3.", "==== 4.");
        askedOfNow(edges);
        sets(edges);
        cutsAndRings(edges);
        plans(edges);
        pricks(edges);
        odds(edges);
    }

    private static void askedOfNow(Edges edges) {
        edges.edge("(By what is now, of LORDS who are THERE; nothing is done;", calls -> {
            FrothShire shire = Calls.told(SIX + "straw 100;draw 3;");
            shire.season();
            shire.gift(0, 1);
            shire.pop(1, 0);
            shire.undo();
            shire.undo();
            shire.redo();
            shire.redo();
            String before = Calls.all(shire);
            calls.due("left(0)", shire.left(0), 62);
            calls.due("will(1, 0, 0)", shire.will(1, 0, 0), 15);
            calls.due("sides(0, 0)", shire.sides(0, 0), 0);
            calls.due("hermits(1)", shire.hermits(1), 6);
            askAll(shire);
            calls.due("all is as it was", Calls.all(shire).equals(before), true);
        });
        edges.edge("no straws, if not told otherwise.", calls -> {
            // the first straw would FLIP a b, so that d and e have four SIDES
            FrothShire shire = Calls.told(FIVE + "grows 0-(sides=3)*2;straw 100;draw 817;");
            calls.due("sides(3, 1)", shire.sides(3, 1), 3);
            calls.due("will(3, 2, 0)", shire.will(3, 2, 0), -2);
            calls.due("will(3, 2, 1)", shire.will(3, 2, 1), 1);
            calls.due("left(2)", shire.left(2), 7);
            calls.due("ending(3)", shire.ending(3), 2);
            calls.due("season()", shire.season(), 0);
            calls.due("season()", shire.season(), 0);
            calls.due("lord(3, 1)", shire.lord(3, 1), 1);
            // behind these a straw falls at once, whatever straw tells above 0: by straws boost(2, 5, 0) would be d f, or
            // save(3, 3) a b, by which d has three SIDES
            for (String straw : new String[] {"", "straw 1;draw 17;", "straw 1;draw 517;", "straw 100;draw 517;"}) {
                shire = Calls.told(SIX + straw);
                calls.due("boost(2, 5, 0), " + straw, shire.boost(2, 5, 0), 4);
                calls.due("boost(2, 5, 1), " + straw, shire.boost(2, 5, 1), 11);
                calls.due("save(3, 3), " + straw, shire.save(3, 3), 4);
            }
        });
        // Behind its 512th call nothing is promised of an object; this one goes on as before.
        edges.edge("What lies ahead goes on beyond season 999, too.)", calls -> {
            FrothShire shire = Calls.told("lord a size 0;grows season>999;");
            for (int i = 0; i < 999; i++) {
                shire.season();
            }
            calls.due("about(4)", shire.about(4), 999);
            calls.due("will(0, 1, 0)", shire.will(0, 1, 0), 0);
            calls.due("will(0, 2, 0)", shire.will(0, 2, 0), 1);
            calls.due("will(0, 60, 0)", shire.will(0, 60, 0), 59);
            calls.due("will(0, 60, 1)", shire.will(0, 60, 1), 59);
            calls.due("season()", shire.season(), -1);
        });
    }

    /** Questions behind which nothing lies there that did not before. */
    private static void askAll(FrothShire shire) {
        for (int lord = -1; lord < 7; lord++) {
            shire.will(lord, 9, 1);
            shire.sides(lord, 9);
            shire.left(9);
            shire.ending(lord);
            shire.far(lord, 1);
            shire.cut(3, lord, 1);
            shire.save(lord, 9);
            shire.boost(lord, 9, 0);
            shire.wall(lord, 1);
            shire.aunts(lord, 1);
            shire.law(lord + 1);
            shire.odds(lord, 0);
            shire.fits(lord);
            shire.sure(0, lord);
            shire.ask(0, lord);
        }
        shire.hermits(0);
        shire.thirds();
        shire.sleepers();
        shire.king();
        shire.restless();
        shire.brides();
        shire.acres();
    }

    private static void sets(Edges edges) {
        edges.edge("FAR are two LORDS: the fewest WALLS to be gone through from one to the other one.", calls -> {
            FrothShire shire = Calls.told(SIX + "lord g size 1 at a b d;lord h size 1 at c e f;");
            int[] due = {1, 1, 2, 1, 2, 2, 0, 3};
            for (int other = 0; other < 8; other++) {
                calls.due("far(6, " + other + ")", shire.far(6, other), due[other]);
                calls.due("far(" + other + ", 6)", shire.far(other, 6), due[other]);
            }
        });
        edges.edge("BANNERS: the fewest colours so that no two who BORDER have one; of like ones the first (LORD by LORD: the"
                + " least colour).", calls -> {
            FrothShire shire = Calls.told(FOUR);
            calls.due("banners() of four", shire.banners(), 4);
            calls.dueLying("banners() of four", shire, 0, 1, 2, 3);
            shire = Calls.told(SIX);
            calls.due("banners() of an octahedron", shire.banners(), 3);
            calls.dueLying("banners() of an octahedron", shire, 0, 1, 1, 2, 2, 0);
            // taking the least colour at once would need a fifth one
            shire = Calls.told(FOUR.replace("at a b c", "at b a c") + "lord e size 3 at c a d;lord f size 3 at e a c;flip e c;");
            calls.due("banners() of six", shire.banners(), 4);
            calls.dueLying("banners() of six", shire, 0, 1, 2, 3, 2, 1);
        });
        edges.edge("PEACE: the most WALLS, no LORD at two of them; of like ones the first (LORD by LORD, by whom he has, the"
                + " least, nobody behind all).", calls -> {
            FrothShire shire = Calls.told(THREE);
            calls.due("peace() of three", shire.peace(), 1);
            calls.dueLying("peace() of three: nobody behind all", shire, 1, 0, -1);
            shire = Calls.told(FIVE);
            calls.due("peace() of five", shire.peace(), 2);
            calls.dueLying("peace() of five", shire, 1, 0, 3, 2, -1);
            // a has the least; then c takes f, as d and e are left to one another
            shire = Calls.told(FOUR + "lord e size 5 at a d c;lord f size 4 at a b c;");
            calls.due("peace() of six", shire.peace(), 3);
            calls.dueLying("peace() of six", shire, 1, 0, 5, 4, 3, 2);
        });
        edges.edge("HERMITS: the most LORDS of whom no two BORDER; of like ones the least set as bits.", calls -> {
            calls.due("hermits(1) of two", Calls.told(TWO).hermits(1), 3);
            calls.due("hermits(1) of three", Calls.told(THREE).hermits(1), 1);
            calls.due("hermits(1) of five", Calls.told(FIVE).hermits(1), 24);
            // a f, b c or d e: 33, 6 or 24
            calls.due("hermits(1) of an octahedron", Calls.told(SIX).hermits(1), 6);
            // c f h, e f h or b c/e ..: 164 is the least of three
            calls.due("hermits(1) of eight", Calls.told(EIGHT).hermits(1), 164);
        });
    }

    private static void cutsAndRings(Edges edges) {
        edges.edge("CUT of two who do not BORDER: the fewest others without whom none of them could come to the other one; of"
                + " like ones the least set as bits.", calls -> {
            calls.due("cut(0, 1, 1) of two: none", Calls.told(TWO).cut(0, 1, 1), 0);
            calls.due("cut(3, 4, 1) of five", Calls.told(FIVE).cut(3, 4, 1), 7);
            calls.due("cut(0, 5, 1) of an octahedron", Calls.told(SIX).cut(0, 5, 1), 30);
            // a b c part e, a d g part h
            calls.due("cut(4, 7, 1) of eight", Calls.told(EIGHT).cut(4, 7, 1), 7);
            calls.due("cut(7, 4, 1) of eight", Calls.told(EIGHT).cut(7, 4, 1), 7);
            calls.due("cut(7, 4, 0) of eight", Calls.told(EIGHT).cut(7, 4, 0), 3);
        });
        edges.edge("RING of a LORD: all whom he BORDERS as they lie about him: from the least on to the lesser of the two next"
                + " to that one (if they are two), and so on.", calls -> {
            FrothShire shire = Calls.told(TWO);
            calls.due("ring(0) of two", shire.ring(0), 0);
            calls.dueLying("ring(0) of two", shire);
            shire = Calls.told(THREE);
            calls.due("ring(2) of three", shire.ring(2), 2);
            calls.dueLying("ring(2) of three: one is next", shire, 0, 1);
            shire = Calls.told(FOUR);
            calls.due("ring(1) of four", shire.ring(1), 3);
            calls.dueLying("ring(1) of four", shire, 0, 2, 3);
            shire = Calls.told(SIX);
            calls.due("ring(0) of an octahedron", shire.ring(0), 4);
            calls.dueLying("ring(0) of an octahedron", shire, 1, 3, 2, 4);
            // about a: b, e, c, d, h, g, f; b is next to e and f, and BORDERS c and d, too
            shire = Calls.told(EIGHT);
            calls.due("ring(0) of eight", shire.ring(0), 7);
            calls.dueLying("ring(0) of eight", shire, 1, 4, 2, 3, 7, 6, 5);
        });
    }

    private static void plans(Edges edges) {
        edges.edge("END of a LORD: behind how many SEASONS he is gone first.", calls -> {
            FrothShire shire = Calls.told(FIVE);
            calls.due("ending(3)", shire.ending(3), 3);
            calls.due("left(2)", shire.left(2), 31);
            calls.due("left(3)", shire.left(3), 23);
            shire.season();
            shire.season();
            calls.due("ending(3) later", shire.ending(3), 1);
            shire.season();
            calls.due("ending(3) when he is gone", shire.ending(3), 0);
        });
        edges.edge("SAVE of a LORD for n SEASONS: two LORDS a, b (b is not he) whose WALL is to be POPPED now, a staying, so"
                + " that he is THERE behind them; of like ones the first (a, then b).", calls -> {
            // by each marriage but his own three are left, who stay
            FrothShire shire = Calls.told(FOUR.replace("d size 3", "d size 1"));
            calls.due("ending(3)", shire.ending(3), 1);
            calls.due("save(3, 1)", shire.save(3, 1), 1);
            calls.due("save(0, 0): b is not he", shire.save(0, 0), 1);
            calls.due("save(1, 0): b is not he", shire.save(1, 0), 2);
            // d must take in a, to stay for three SEASONS
            calls.due("save(3, 2) of five", Calls.told(FIVE).save(3, 2), 4);
            calls.due("save(3, 3) of five", Calls.told(FIVE).save(3, 3), 24);
        });
        edges.edge("BOOST of a LORD for n SEASONS: the WALL to be FLIPPED now so that his SIZE is greatest behind them (0, if"
                + " he is gone); of like ones the first.", calls -> {
            FrothShire shire = Calls.told(FIVE);
            calls.due("boost(0, 0, 0): of like ones the first", shire.boost(0, 0, 0), 1);
            calls.due("boost(0, 1, 0): b c", shire.boost(0, 1, 0), 10);
            calls.due("boost(0, 1, 1): b c", shire.boost(0, 1, 1), 9);
            calls.due("boost(1, 1, 0): a c", shire.boost(1, 1, 0), 2);
            shire = Calls.told(FIVE + "grows 0-99;");
            calls.due("boost(4, 30, 0): he is gone by each", shire.boost(4, 30, 0), 1);
            calls.due("boost(4, 30, 1): he is gone by each", shire.boost(4, 30, 1), 0);
        });
    }

    private static void pricks(Edges edges) {
        edges.edge("PRICKS of two LORDS: each chooses a WALL of his that can be POPPED now (he staying; not that with the other"
                + " one of the two), or none;", calls -> {
            // a may take in e, or none; d may take in b, c, or none: a keeps his four SIDES, d has three by each
            FrothShire shire = Calls.told(FIVE);
            calls.due("pricks(0, 3)", shire.pricks(0, 3), 3);
            calls.dueLying("pricks(0, 3)", shire, -1, -1);
            // neither has a choice
            shire = Calls.told(THREE);
            calls.due("pricks(0, 1) of three", shire.pricks(0, 1), 1);
            calls.dueLying("pricks(0, 1) of three", shire, -1, -1);
        });
        edges.edge("the first one's is POPPED first, then the other one's, if it can be yet;", calls -> {
            // none; or each takes in c or d, when the other one's can't be any more, or would change nothing
            FrothShire shire = Calls.told(FOUR);
            calls.due("pricks(0, 1) of four", shire.pricks(0, 1), 5);
            calls.dueLying("pricks(0, 1) of four", shire, -1, -1);
            // who is first takes in a, by which the other one's c or d would take a side from him, a nothing
            shire = Calls.told(FIVE + "lord f size 1 at a c d;");
            calls.due("pricks(4, 5)", shire.pricks(4, 5), 7);
            calls.dueLying("pricks(4, 5)", shire, 0, -1);
            calls.due("pricks(5, 4)", shire.pricks(5, 4), 7);
            calls.dueLying("pricks(5, 4)", shire, 0, -1);
        });
        edges.edge("each wants as many SIDES as can be then; at RESTS neither, the other one's choosing so, would have more by"
                + " another choice.", calls -> {
            FrothShire shire = Calls.told(FIVE + "lord f size 4 at b c e;");
            calls.due("pricks(3, 5)", shire.pricks(3, 5), 7);
            calls.dueLying("pricks(3, 5): d takes in a, f takes in e", shire, 0, 4);
            shire = Calls.told(FOUR + "lord e size 6 at c d b;lord f size 2 at c b e;lord g size 5 at b c a;");
            calls.due("pricks(5, 6): no RESTS", shire.pricks(5, 6), 0);
        });
    }

    private static void odds(Edges edges) {
        edges.edge("ODDS: that no straw falls in n SEASONS, whatever the SEED is.", calls -> {
            for (int draw : new int[] {0, 44, 817}) {
                FrothShire shire = Calls.told("straw 40;draw " + draw + ";");
                calls.due("odds(1, 0), draw " + draw, shire.odds(1, 0), 3);
                calls.due("odds(1, 1), draw " + draw, shire.odds(1, 1), 5);
                calls.due("odds(3, 0), draw " + draw, shire.odds(3, 0), 27);
                calls.due("odds(3, 1), draw " + draw, shire.odds(3, 1), 125);
            }
            calls.due("odds(4, 0) of straw 0", Calls.told("straw 0;").odds(4, 0), 1);
            calls.due("odds(1, 0) of straw 99", Calls.told("straw 99;").odds(1, 0), 1);
            calls.due("odds(1, 1) of straw 99", Calls.told("straw 99;").odds(1, 1), 100);
            calls.due("odds(1, 0) of straw 100", Calls.told("straw 100;").odds(1, 0), 0);
        });
    }
}
