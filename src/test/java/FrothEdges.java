/** Terms, ==== 2: LORDS, CORNERS, WALLS, SEASONS, ACTS. */
final class FrothEdges {
    private static final String TWO = "lord a size 9;lord b size 5;";
    private static final String THREE = TWO + "lord c size 7;";
    private static final String FOUR = THREE + "lord d size 3 at a b c;";
    // d and e lie on either side of a, b, c
    private static final String FIVE = FOUR + "lord e size 4 at a b c;";
    // an octahedron: each has four SIDES; a and f, b and c, d and e do not BORDER
    private static final String SIX = FIVE + "lord f size 6 at b c d;flip b c;";

    private FrothEdges() {
    }

    static void all(Edges edges) {
        edges.open("==== 2.", "==== 3.");
        corners(edges);
        flips(edges);
        pops(edges);
        vanishing(edges);
        growth(edges);
        formulas(edges);
        shrinking(edges);
        straws(edges);
        acts(edges);
    }

    private static void dueCorners(Calls calls, String when, FrothShire shire, int... want) {
        calls.due("about(2) " + when, shire.about(2), want.length / 3);
        for (int i = 0; i < want.length + 3; i++) {
            calls.due("corner(" + i / 3 + ", " + i % 3 + ") " + when, shire.corner(i / 3, i % 3),
                    i < want.length ? want[i] : -1);
        }
    }

    private static void dueSizes(Calls calls, String when, FrothShire shire, int... want) {
        for (int lord = 0; lord < want.length; lord++) {
            calls.due("lord(" + lord + ", 1) " + when, shire.lord(lord, 1), want[lord]);
        }
    }

    private static void value(Calls calls, String formula, int want) {
        FrothShire shire = Calls.told("lord a size 5;grows " + formula + ";");
        calls.due("lord(0, 4) by " + formula, shire.lord(0, 4), want);
    }

    private static FrothShire behindSeason(String text) {
        FrothShire shire = Calls.told(text);
        shire.season();
        return shire;
    }

    private static void corners(Edges edges) {
        edges.edge("A LORD is THERE (at first) or gone, has a SIZE (as told, at first).", calls -> {
            FrothShire shire = Calls.told(FIVE.replace("lord d size 3", "lord d size 0"));
            calls.due("about(1) at first", shire.about(1), 31);
            calls.due("lord(3, 0) at first", shire.lord(3, 0), 1);
            dueSizes(calls, "at first", shire, 9, 5, 7, 0, 4);
            shire.season();
            calls.due("lord(3, 0) when he is gone", shire.lord(3, 0), 0);
            calls.due("about(1) when he is gone", shire.about(1), 23);
        });
        edges.edge("A CORNER is where three LORDS meet; CORNERS are numbered in order, each told by its LORDS, the least number"
                + " first.", calls -> {
            dueCorners(calls, "of five", Calls.told(FIVE), 0, 1, 3, 0, 1, 4, 0, 2, 3, 0, 2, 4, 1, 2, 3, 1, 2, 4);
            dueCorners(calls, "behind a flip", Calls.told(FIVE + "flip b c;"), 0, 1, 3, 0, 1, 4, 0, 2, 3, 0, 2, 4,
                    1, 3, 4, 2, 3, 4);
            FrothShire shire = Calls.told(FIVE);
            shire.pop(4, 0);
            dueCorners(calls, "when the last is in the place of the first", shire, 1, 2, 3, 1, 2, 4, 1, 3, 4, 2, 3, 4);
        });
        edges.edge("With the third LORD told there are two CORNERS of these three (one on each side);", calls -> {
            dueCorners(calls, "of none", new FrothShire());
            dueCorners(calls, "of one", Calls.told("lord a size 1;"));
            dueCorners(calls, "of two", Calls.told(TWO));
            dueCorners(calls, "of three", Calls.told(THREE), 0, 1, 2, 0, 1, 2);
            calls.due("about(3) of three", Calls.told(THREE).about(3), 3);
        });
        edges.edge("a LORD who is born at a CORNER takes its place (one, if there are two): three come, of him and two of its"
                + " three each.", calls -> {
            dueCorners(calls, "of four", Calls.told(FOUR), 0, 1, 2, 0, 1, 3, 0, 2, 3, 1, 2, 3);
            dueCorners(calls, "of six", Calls.told(FIVE + "lord f size 1 at a b e;"), 0, 1, 3, 0, 1, 5, 0, 2, 3,
                    0, 2, 4, 0, 4, 5, 1, 2, 3, 1, 2, 4, 1, 4, 5);
        });
        edges.edge("Two LORDS BORDER, if they have CORNERS together: so they have a WALL.", calls -> {
            calls.due("wall(0, 1) of two", Calls.told(TWO).wall(0, 1), 0);
            calls.due("about(3) of two", Calls.told(TWO).about(3), 0);
            calls.due("wall(0, 1) of three", Calls.told(THREE).wall(0, 1), 1);
            calls.due("wall(3, 4) of five", Calls.told(FIVE).wall(3, 4), 0);
            calls.due("about(3) of five", Calls.told(FIVE).about(3), 9);
        });
        edges.edge("SIDES of a LORD: in how many CORNERS he is.", calls -> {
            calls.due("lord(0, 2) of two", Calls.told(TWO).lord(0, 2), 0);
            calls.due("lord(0, 2) of three", Calls.told(THREE).lord(0, 2), 2);
            calls.due("lord(0, 2) of four", Calls.told(FOUR).lord(0, 2), 3);
            calls.due("lord(0, 2) of five", Calls.told(FIVE).lord(0, 2), 4);
            FrothShire shire = Calls.told(FIVE + "lord f size 1 at a b d;lord g size 1 at a b f;lord h size 1 at a b g;");
            calls.due("lord(0, 2) of eight: the most", shire.lord(0, 2), 7);
        });
    }

    private static void flips(Edges edges) {
        edges.edge("A WALL of a, b with just two CORNERS a b c, a b d can be FLIPPED, if c and d are unlike", calls -> {
            // two CORNERS, but both are a b c
            calls.due("wall(0, 1) of three", Calls.told(THREE).wall(0, 1), 1);
            calls.due("flip(0, 1) of three", Calls.told(THREE).flip(0, 1), -1);
            // no CORNERS
            calls.due("flip(0, 1) of two", Calls.told(TWO).flip(0, 1), -1);
            calls.due("flip(3, 4) of five", Calls.told(FIVE).flip(3, 4), -1);
            calls.due("flip(0, 0) of five", Calls.told(FIVE).flip(0, 0), -1);
        });
        edges.edge("and do not BORDER,", calls -> {
            calls.due("flip(0, 1): d, e", Calls.told(FIVE).flip(0, 1), 28);
            FrothShire shire = Calls.told(FIVE + "flip b c;");
            // now d and e BORDER
            calls.due("wall(0, 1)", shire.wall(0, 1), 5);
            calls.due("flip(0, 1)", shire.flip(0, 1), -1);
            shire = Calls.told(SIX + "lord g size 1 at a b d;");
            calls.due("flip(0, 1): e, g", shire.flip(0, 1), 38);
            // a and b have 4 SIDES and more, but f, whom c BORDERS, lies between a, b and d
            shire = Calls.told(FIVE + "lord f size 1 at a b d;flip a b;");
            calls.due("lord(0, 2)", shire.lord(0, 2), 4);
            calls.due("lord(3, 2)", shire.lord(3, 2), 4);
            calls.due("wall(0, 3): f, c", shire.wall(0, 3), 7);
            calls.due("flip(0, 3): f, c", shire.flip(0, 3), 21);
        });
        edges.edge("a and b have 4 SIDES at least each:", calls -> {
            calls.due("flip(0, 3): 4 and 3", Calls.told(FIVE).flip(0, 3), -1);
            calls.due("flip(3, 0): 3 and 4", Calls.told(FIVE).flip(3, 0), -1);
            calls.due("flip(0, 1): 3 and 3", Calls.told(FOUR).flip(0, 1), -1);
            calls.due("flip(0, 1): 4 and 4", Calls.told(FIVE).flip(0, 1), 28);
            calls.due("restless() of six: all 4", Calls.told(SIX).restless(), 12);
        });
        edges.edge("these two CORNERS become a c d, b c d.", calls -> {
            FrothShire shire = Calls.told(FIVE);
            shire.flip(1, 0);
            dueCorners(calls, "behind flip(1, 0)", shire, 0, 2, 3, 0, 2, 4, 0, 3, 4, 1, 2, 3, 1, 2, 4, 1, 3, 4);
            dueSizes(calls, "behind flip(1, 0)", shire, 9, 5, 7, 3, 4);
            calls.due("flip(3, 4): as it was", shire.flip(3, 4), 1);
            dueCorners(calls, "as it was", shire, 0, 1, 3, 0, 1, 4, 0, 2, 3, 0, 2, 4, 1, 2, 3, 1, 2, 4);
        });
    }

    private static void pops(Edges edges) {
        edges.edge("It can be POPPED, if more than three LORDS are THERE", calls -> {
            FrothShire shire = Calls.told(FOUR);
            calls.due("wall(0, 1) of four", shire.wall(0, 1), 5);
            calls.due("pop(0, 1) of four", shire.pop(0, 1), 14);
            calls.due("wall(0, 2) of three", shire.wall(0, 2), 1);
            calls.due("pop(0, 2) of three", shire.pop(0, 2), -1);
            calls.due("pop(0, 1) of three", Calls.told(THREE).pop(0, 1), -1);
            calls.due("pop(0, 1) of two", Calls.told(TWO).pop(0, 1), -1);
        });
        edges.edge("and a, b both BORDER just two others (c, d):", calls -> {
            FrothShire shire = Calls.told(FIVE);
            calls.due("aunts(0, 1): three", shire.aunts(0, 1), 3);
            calls.due("pop(0, 1): three", shire.pop(0, 1), -1);
            calls.due("pop(3, 4): no WALL", shire.pop(3, 4), -1);
            // two who both BORDER just two others, but not one another
            shire = Calls.told(FIVE + "lord f size 1 at a b d;");
            calls.due("aunts(4, 5)", shire.aunts(4, 5), 2);
            calls.due("pop(4, 5): no WALL", shire.pop(4, 5), -1);
            calls.due("pop(4, 0): two", shire.pop(4, 0), 13);
        });
        edges.edge("these two CORNERS go, b is gone, a is in his place in all others,", calls -> {
            FrothShire shire = Calls.told(SIX);
            shire.pop(5, 1);
            calls.due("about(1)", shire.about(1), 61);
            dueCorners(calls, "behind pop(5, 1)", shire, 0, 2, 3, 0, 2, 4, 0, 3, 5, 0, 4, 5, 2, 3, 5, 2, 4, 5);
            calls.due("lord(1, 3) when he is gone", shire.lord(1, 3), 0);
            // both aunts have lost a side
            calls.due("lord(3, 2)", shire.lord(3, 2), 3);
            calls.due("lord(4, 2)", shire.lord(4, 2), 3);
            calls.due("lord(5, 2)", shire.lord(5, 2), 4);
            // of four three are left, with two CORNERS
            shire = Calls.told(FOUR);
            shire.pop(3, 1);
            dueCorners(calls, "behind pop(3, 1)", shire, 0, 2, 3, 0, 2, 3);
        });
        edges.edge("has both SIZES together (999 at most).", calls -> {
            String four = "lord a size 500;lord b size 499;lord c size 500;lord d size 999 at a b c;";
            calls.due("pop(0, 1)", Calls.told(four).pop(0, 1), 999);
            calls.due("pop(0, 2)", Calls.told(four).pop(0, 2), 999);
            calls.due("pop(3, 0)", Calls.told(four).pop(3, 0), 999);
            calls.due("pop(1, 0)", Calls.told(four.replace("499", "498")).pop(1, 0), 998);
        });
    }

    private static void vanishing(Edges edges) {
        edges.edge("A LORD of 3 SIDES who BORDERS b, c, d, while more than three are THERE, can VANISH:", calls -> {
            String none = "grows 0;";
            calls.due("season(): 3 SIDES of five", Calls.told(FIVE.replace("e size 4", "e size 0") + none).season(), 16);
            calls.due("season(): 3 SIDES of four", Calls.told(FOUR.replace("d size 3", "d size 0") + none).season(), 8);
            calls.due("season(): 4 SIDES", Calls.told(FIVE.replace("a size 9", "a size 0") + none).season(), 0);
            FrothShire shire = Calls.told("lord a size 0;lord b size 0;lord c size 0;" + none);
            calls.due("season(): 2 SIDES of three", shire.season(), 0);
            shire = Calls.told("lord a size 0;lord b size 0;lord c size 0;lord d size 0 at a b c;" + none);
            // the first is gone; then only three are THERE
            calls.due("season(): four of no SIZE", shire.season(), 1);
            calls.due("season(): three are left", shire.season(), 0);
            calls.due("season(): one alone", Calls.told("lord a size 0;" + none).season(), 0);
        });
        edges.edge("he is gone, his three CORNERS become one, b c d.", calls -> {
            FrothShire shire = behindSeason(SIX + "lord g size 0 at a b d;grows 0;");
            calls.due("about(1)", shire.about(1), 63);
            dueCorners(calls, "behind it", shire, 0, 1, 3, 0, 1, 4, 0, 2, 3, 0, 2, 4, 1, 3, 5, 1, 4, 5, 2, 3, 5, 2, 4, 5);
            shire = behindSeason(FOUR.replace("d size 3", "d size 0") + "grows 0;");
            dueCorners(calls, "of three who are left", shire, 0, 1, 2, 0, 1, 2);
            // the first vanishes: of those behind him the CORNERS come in order again
            shire = behindSeason(FOUR.replace("a size 9", "a size 0") + "lord e size 4 at b c d;grows 0;");
            calls.due("about(1) without the first", shire.about(1), 30);
            dueCorners(calls, "without the first", shire, 1, 2, 3, 1, 2, 4, 1, 3, 4, 2, 3, 4);
        });
    }

    private static void growth(Edges edges) {
        edges.edge("A SEASON: each LORD who is THERE has so much more SIZE as comes of grows (sides - 4, if it is not told)",
                calls -> {
            dueSizes(calls, "behind a SEASON", behindSeason(FIVE), 9, 5, 7, 2, 3);
            dueSizes(calls, "of two", behindSeason(TWO), 5, 1);
            dueSizes(calls, "by what is told", behindSeason(TWO + "grows 3;"), 12, 8);
            // who is gone does not grow
            FrothShire shire = Calls.told(FIVE + "grows 9;");
            shire.pop(0, 3);
            shire.season();
            dueSizes(calls, "when one is gone", shire, 21, 14, 16, 0, 13);
        });
        edges.edge("by sides (his SIDES), size (his SIZE), near (SIZES of all whom he BORDERS, together),", calls -> {
            calls.due("sides", Calls.told(FIVE + "grows sides;").lord(0, 4), 4);
            calls.due("sides of none", Calls.told(TWO + "grows sides;").lord(0, 4), 0);
            calls.due("size", Calls.told(FIVE + "grows size;").lord(0, 4), 9);
            calls.due("near: all but himself", Calls.told(FIVE + "grows near;").lord(0, 4), 19);
            calls.due("near: e is far", Calls.told(FIVE + "grows near;").lord(3, 4), 21);
            calls.due("near of none", Calls.told(TWO + "grows near;").lord(0, 4), 0);
            calls.due("near of three: each once", Calls.told(THREE + "grows near;").lord(0, 4), 12);
        });
        edges.edge("lords (how many are THERE), season (0 at first;", calls -> {
            FrothShire shire = Calls.told(FIVE + "grows lords*10+season;");
            calls.due("lord(0, 4) at first", shire.lord(0, 4), 50);
            shire.pop(0, 3);
            calls.due("lord(0, 4) when one is gone", shire.lord(0, 4), 40);
            shire.season();
            calls.due("lord(0, 4) later", shire.lord(0, 4), 41);
        });
    }

    private static void formulas(Edges edges) {
        edges.edge("ints, wrapping;", calls -> {
            // 2147483648 is -2147483648
            value(calls, "2048*1024*1024<0", 1);
            value(calls, "2048*1024*1024-1>0", 1);
            value(calls, "2048*1024*1023+2048*1023+2047>0", 1);
            value(calls, "2048*1024*1023+2048*1023+2048<0", 1);
            value(calls, "0-2048*1024*1024<0", 1);
            value(calls, "2048*2048*1024", 0);
            value(calls, "2048*1024*1024/(0-1)<0", 1);
        });
        edges.edge("/ cut, % its rest, both by 0: 0;", calls -> {
            value(calls, "7/2", 3);
            value(calls, "(0-7)/2", -3);
            value(calls, "7/(0-2)", -3);
            value(calls, "(0-7)/(0-2)", 3);
            value(calls, "7%4", 3);
            value(calls, "(0-7)%4", -3);
            value(calls, "7%(0-4)", 3);
            value(calls, "7/0", 0);
            value(calls, "7%0", 0);
            value(calls, "0/0", 0);
            value(calls, "5+7/(2-2)", 5);
            value(calls, "2048*1024*1024%(0-1)", 0);
        });
        edges.edge("relations, and, or, not are 1 or 0, of what is not 0)", calls -> {
            value(calls, "5=5", 1);
            value(calls, "5=6", 0);
            value(calls, "5<6", 1);
            value(calls, "5<5", 0);
            value(calls, "5>4", 1);
            value(calls, "5>5", 0);
            value(calls, "0-5<0-4", 1);
            value(calls, "0-5 and 2", 1);
            value(calls, "2 and 0", 0);
            value(calls, "0 or 0-5", 1);
            value(calls, "0 or 0", 0);
            value(calls, "not 0-5", 0);
            value(calls, "not 0", 1);
            value(calls, "not not 0-5", 1);
            value(calls, "0-1 and 0-1", 1);
            value(calls, "0-1 or 0", 1);
            value(calls, "0 or 0-1", 1);
            value(calls, "not 0-1", 0);
        });
        edges.edge(", -99 at least, 99 at most,", calls -> {
            value(calls, "99", 99);
            value(calls, "100", 99);
            value(calls, "0-99", -99);
            value(calls, "0-100", -99);
            value(calls, "2048*1024*1024", -99);
            value(calls, "2048*1024*1024-1", 99);
            FrothShire shire = behindSeason("lord a size 500;lord b size 300;grows 1000-(size<400)*2000;");
            dueSizes(calls, "behind a SEASON", shire, 599, 201);
        });
        edges.edge("all by what was so ahead of it;", calls -> {
            dueSizes(calls, "by near", behindSeason(THREE + "grows near-12;"), 9, 9, 9);
            // c would have no SIZE left, and d be gone, if what came of the SEASON mattered
            dueSizes(calls, "by lords", behindSeason(FOUR + "grows 0-(lords=4)*3;"), 6, 2, 4, 0);
            dueSizes(calls, "by season", behindSeason(FOUR + "grows season;"), 9, 5, 7, 3);
        });
        edges.edge("SIZE stays within 0 .. 999.", calls -> {
            String two = "lord a size 990;lord b size 8;";
            dueSizes(calls, "by 9", behindSeason(two + "grows 9;"), 999, 17);
            dueSizes(calls, "by 10", behindSeason(two + "grows 10;"), 999, 18);
            dueSizes(calls, "by -8", behindSeason(two + "grows 0-8;"), 982, 0);
            dueSizes(calls, "by -9", behindSeason(two + "grows 0-9;"), 981, 0);
            FrothShire shire = behindSeason(two + "grows 99;");
            shire.season();
            dueSizes(calls, "by 99 twice", shire, 999, 206);
        });
    }

    private static void shrinking(Edges edges) {
        edges.edge("Then, LORD by LORD (by numbers), who is THERE and has SIZE 0 VANISHES, if he can;", calls -> {
            // behind the growing: d and e come to nothing by it
            calls.due("season(): two at once", Calls.told(FIVE + "grows 0-(sides=3)*4;").season(), 24);
            // SIZE 1 is enough
            calls.due("season(): 1 is left", Calls.told(FIVE + "grows 0-(sides=3)*2;").season(), 0);
            String none = "lord a size 9;lord b size 9;lord c size 9;lord d size 0 at a b c;lord e size 0 at a b c;";
            calls.due("season(): d, e", Calls.told(none + "grows 0;").season(), 24);
            // b goes first, so that d, who had 4 SIDES, can VANISH, too
            String both = FIVE.replace("b size 5", "b size 0").replace("d size 3", "d size 0") + "flip b c;grows 0;";
            calls.due("lord(1, 2)", Calls.told(both).lord(1, 2), 3);
            calls.due("lord(3, 2)", Calls.told(both).lord(3, 2), 4);
            calls.due("season(): b, then d", Calls.told(both).season(), 10);
            // d is first here, who has 4 SIDES: he loses one, by which e, who had 3, has 4
            FrothShire shire = Calls.told(none.replace("e size 0 at a b c", "e size 0 at a b d") + "grows 0;");
            calls.due("lord(3, 2)", shire.lord(3, 2), 4);
            calls.due("lord(4, 2)", shire.lord(4, 2), 3);
            calls.due("season(): d, then e", shire.season(), 0);
        });
        edges.edge("else the WALL of him and the least LORD with which it can be FLIPPED is FLIPPED, if there is one.", calls -> {
            FrothShire shire = Calls.told(SIX.replace("d size 3", "d size 0") + "grows 0;");
            calls.due("season(): he loses a side", shire.season(), 0);
            calls.due("wall(3, 0): the least", shire.wall(3, 0), 0);
            calls.due("lord(3, 2)", shire.lord(3, 2), 3);
            calls.due("season(): then he goes", shire.season(), 8);
            // with a and c it can't be, as they have 3 SIDES; with d it can
            shire = Calls.told(FIVE.replace("b size 5", "b size 0") + "flip a c;grows 0;");
            int[] ahead = {5, -1, 5, 3, 3};
            int[] behind = {5, -1, 5, 0, 5};
            for (int other = 0; other < 5; other++) {
                calls.due("wall(1, " + other + ")", shire.wall(1, other), ahead[other]);
            }
            shire.season();
            for (int other = 0; other < 5; other++) {
                calls.due("wall(1, " + other + ") behind it", shire.wall(1, other), behind[other]);
            }
            // there is none
            shire = behindSeason("lord a size 0;lord b size 0;lord c size 0;grows 0;");
            dueCorners(calls, "of three of no SIZE", shire, 0, 1, 2, 0, 1, 2);
            calls.due("about(1) of two of no SIZE", behindSeason("lord a size 0;lord b size 0;").about(1), 3);
        });
    }

    private static void straws(Edges edges) {
        edges.edge("In earnest the SEED (draw, at first) then becomes its 137-fold and 71 more, modulo 1,000;", calls -> {
            int[] draws = {0, 1, 6, 7, 816, 817, 818, 999};
            int[] due = {71, 208, 893, 30, 863, 0, 137, 934};
            for (int i = 0; i < draws.length; i++) {
                FrothShire shire = Calls.told("draw " + draws[i] + ";");
                calls.due("about(5) of draw " + draws[i], shire.about(5), draws[i]);
                shire.will(0, 60, 1);
                shire.left(60);
                calls.due("about(5) of draw " + draws[i] + ", not in earnest", shire.about(5), draws[i]);
                shire.season();
                calls.due("about(5) behind draw " + draws[i], shire.about(5), due[i]);
            }
            FrothShire shire = behindSeason("draw 7;");
            shire.season();
            calls.due("about(5) behind two", shire.about(5), 30 * 137 % 1000 + 71);
        });
        edges.edge("if its rest by 100 is less than straw tells", calls -> {
            dueStraw(calls, 817, 0, false);
            dueStraw(calls, 817, 1, true);
            // 44 * 137 + 71 is 6099
            dueStraw(calls, 44, 99, false);
            dueStraw(calls, 44, 100, true);
            // 999 comes to 934
            dueStraw(calls, 999, 34, false);
            dueStraw(calls, 999, 35, true);
        });
        edges.edge("and there are CORNERS,", calls -> {
            FrothShire shire = Calls.told(TWO + "straw 100;");
            calls.due("season() of two", shire.season(), 0);
            calls.due("about(5) of two", shire.about(5), 71);
            calls.due("about(4) of two", shire.about(4), 1);
            calls.due("season() of none", Calls.told("straw 100;").season(), 0);
            calls.due("will(0, 60, 1) of two", Calls.told(TWO + "straw 100;grows 1;").will(0, 60, 1), 69);
        });
        edges.edge("the WALL of the first two of the CORNER whose number is the SEED modulo how many there are is FLIPPED, if it"
                + " can be.", calls -> {
            // SEED 0, CORNER 0: a b d; SEED 99, CORNER 3: a c e; SEED 934, CORNER 4: b c d
            calls.due("wall(0, 1)", behindSeason(FIVE + "grows 0;straw 100;draw 817;").wall(0, 1), 0);
            calls.due("wall(0, 2)", behindSeason(FIVE + "grows 0;straw 100;draw 44;").wall(0, 2), 0);
            calls.due("wall(1, 2)", behindSeason(FIVE + "grows 0;straw 100;draw 999;").wall(1, 2), 0);
            // of four none can be
            dueCorners(calls, "of four", behindSeason(FOUR + "grows 0;straw 100;draw 817;"),
                    0, 1, 2, 0, 1, 3, 0, 2, 3, 1, 2, 3);
            // by how many there are behind the vanishing: e is gone
            FrothShire shire = behindSeason(FIVE.replace("e size 4", "e size 0")
                    + "lord f size 5 at a b d;grows 0;straw 100;draw 999;");
            calls.due("about(1) behind both", shire.about(1), 47);
            calls.due("about(2) behind both", shire.about(2), 6);
            // CORNERS then: a b c, a b f, a c d, a d f, b c d, b d f; 934 is 4 of 6: b c, whose third ones are a and d
            dueCorners(calls, "behind both", shire, 0, 1, 2, 0, 1, 5, 0, 2, 3, 0, 3, 5, 1, 2, 3, 1, 3, 5);
            shire = behindSeason(FIVE.replace("e size 4", "e size 0")
                    + "lord f size 5 at a b d;grows 0;straw 100;draw 817;");
            // SEED 0, CORNER 0: a b, whose third ones are c and f
            calls.due("wall(0, 1) behind both", shire.wall(0, 1), 0);
            calls.due("wall(2, 5) behind both", shire.wall(2, 5), 3);
        });
        edges.edge("The season goes up by 1.", calls -> {
            FrothShire shire = new FrothShire();
            for (int i = 0; i < 3; i++) {
                calls.due("about(4) behind " + i, shire.about(4), i);
                shire.season();
            }
        });
    }

    /** Of five one WALL of a, b, c is FLIPPED if the straw falls, so that d and e BORDER. */
    private static void dueStraw(Calls calls, int draw, int straw, boolean falls) {
        FrothShire shire = behindSeason(FIVE + "grows 0;straw " + straw + ";draw " + draw + ";");
        calls.due("wall(3, 4) behind draw " + draw + ", straw " + straw, shire.wall(3, 4), falls ? 3 : 0);
    }

    private static void acts(Edges edges) {
        edges.edge("ACTS: a SEASON; a WALL is FLIPPED, or POPPED; a LORD who is THERE is given SIZE.", calls -> {
            FrothShire shire = Calls.told(FIVE);
            shire.season();
            calls.due("about(6) behind season()", shire.about(6), 1);
            shire.flip(0, 1);
            calls.due("about(6) behind flip()", shire.about(6), 2);
            shire.pop(0, 3);
            calls.due("about(6) behind pop()", shire.about(6), 3);
            shire.gift(0, 1);
            calls.due("about(6) behind gift()", shire.about(6), 4);
            shire.image(0);
            shire.later(1);
            shire.seen(0, 0, true);
            shire.banners();
            shire.flip(0, 0);
            shire.pop(0, 0);
            shire.gift(3, 1);
            calls.due("about(6) behind what is no ACT", shire.about(6), 4);
        });
        edges.edge("UNDO takes back the latest ACT that was not,", calls -> {
            FrothShire shire = Calls.told(FIVE);
            shire.gift(0, 1);
            shire.gift(0, 2);
            shire.gift(0, 4);
            int[] sizes = {12, 10, 9};
            for (int size : sizes) {
                calls.due("undo()", shire.undo(), true);
                calls.due("lord(0, 1)", shire.lord(0, 1), size);
            }
            calls.due("undo() when there is none", shire.undo(), false);
            calls.due("lord(0, 1) then", shire.lord(0, 1), 9);
            calls.due("about(7)", shire.about(7), 3);
            // another ACT in the place of these
            shire.gift(1, 1);
            calls.due("undo() of another ACT", shire.undo(), true);
            calls.due("lord(1, 1)", shire.lord(1, 1), 5);
            calls.due("undo() when there is none yet", shire.undo(), false);
        });
        edges.edge("REDO does that again which was taken back last (till another ACT);", calls -> {
            FrothShire shire = Calls.told(FIVE);
            shire.gift(0, 1);
            shire.gift(0, 2);
            shire.undo();
            shire.undo();
            calls.due("redo()", shire.redo(), true);
            calls.due("lord(0, 1)", shire.lord(0, 1), 10);
            calls.due("redo()", shire.redo(), true);
            calls.due("lord(0, 1)", shire.lord(0, 1), 12);
            calls.due("redo() when there is none", shire.redo(), false);
            shire.undo();
            shire.gift(0, 5);
            calls.due("redo() behind another ACT", shire.redo(), false);
            calls.due("lord(0, 1) behind another ACT", shire.lord(0, 1), 15);
            shire.undo();
            calls.due("redo() of the other ACT", shire.redo(), true);
            calls.due("lord(0, 1) of the other ACT", shire.lord(0, 1), 15);
        });
        edges.edge("40 at most are kept, the oldest go.", calls -> {
            FrothShire shire = Calls.told(FIVE);
            for (int i = 0; i < 40; i++) {
                shire.gift(0, 1);
            }
            calls.due("about(6) behind 40", shire.about(6), 40);
            shire.gift(0, 1);
            calls.due("about(6) behind 41", shire.about(6), 40);
            for (int i = 0; i < 40; i++) {
                calls.due("undo() number " + i, shire.undo(), true);
            }
            calls.due("undo() number 40", shire.undo(), false);
            calls.due("lord(0, 1): the oldest is done", shire.lord(0, 1), 10);
            calls.due("about(7)", shire.about(7), 40);
            for (int i = 0; i < 40; i++) {
                calls.due("redo() number " + i, shire.redo(), true);
            }
            calls.due("redo() number 40", shire.redo(), false);
            calls.due("lord(0, 1) behind all", shire.lord(0, 1), 50);
            // those that were taken back make room again
            for (int i = 0; i < 10; i++) {
                shire.undo();
            }
            shire.gift(0, 2);
            calls.due("about(6)", shire.about(6), 31);
            calls.due("lord(0, 1)", shire.lord(0, 1), 42);
            // many times as many
            shire = Calls.told(FIVE);
            for (int i = 0; i < 200; i++) {
                shire.gift(1, 1);
            }
            for (int i = 0; i < 45; i++) {
                calls.due("undo() of 200, number " + i, shire.undo(), i < 40);
            }
            calls.due("lord(1, 1) behind undo()", shire.lord(1, 1), 165);
            for (int i = 0; i < 45; i++) {
                calls.due("redo() of 200, number " + i, shire.redo(), i < 40);
            }
            calls.due("lord(1, 1) behind redo()", shire.lord(1, 1), 205);
        });
    }
}
