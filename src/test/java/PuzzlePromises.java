/** Promises 19 to 24 and 37: who BORDERS whom, and what lies there. */
final class PuzzlePromises {
    private static final String TWO = "lord a size 9;lord b size 5;";
    private static final String THREE = TWO + "lord c size 7;";
    private static final String FOUR = THREE + "lord d size 3 at a b c;";
    private static final String FIVE = FOUR + "lord e size 4 at a b c;";
    // an octahedron: a and f, b and c, d and e do not BORDER
    private static final String SIX = FIVE + "lord f size 6 at b c d;flip b c;";
    // a BORDERS all; h lies far from b, c, e, f
    private static final String EIGHT = FIVE + "lord f size 6 at a b d;lord g size 7 at a d f;lord h size 8 at a d g;";

    private PuzzlePromises() {
    }

    static void all(Edges edges) {
        promise19(edges);
        promise20(edges);
        promise21(edges);
        promise22(edges);
        promise23(edges);
        promise24(edges);
        promise37(edges);
    }

    /** Of the octahedron, a has been taken in by b: c has three SIDES, as b, d, e, f BORDER one another but for d, e. */
    private static FrothShire withoutA() {
        FrothShire shire = Calls.told(SIX);
        shire.pop(1, 0);
        return shire;
    }

    private static void promise19(Edges edges) {
        edges.promise(19);
        edges.edge("FAR;", calls -> {
            FrothShire shire = Calls.told(SIX + "lord g size 1 at a b d;lord h size 1 at c e f;");
            calls.due("far(6, 6)", shire.far(6, 6), 0);
            calls.due("far(6, 0)", shire.far(6, 0), 1);
            calls.due("far(6, 2)", shire.far(6, 2), 2);
            calls.due("far(6, 7): the most", shire.far(6, 7), 3);
            calls.due("far(7, 6): the most", shire.far(7, 6), 3);
            calls.due("far(0, 0) of one", Calls.told("lord a size 1;").far(0, 0), 0);
            // no way leads there
            calls.due("far(0, 1) of two", Calls.told(TWO).far(0, 1), -1);
            calls.due("far(0, 2) of three", Calls.told(THREE).far(0, 2), 1);
        });
        edges.edge("NONE if one is gone,", calls -> {
            calls.due("far(0, 1)", withoutA().far(0, 1), -1);
            calls.due("far(1, 0)", withoutA().far(1, 0), -1);
            calls.due("far(0, 0)", withoutA().far(0, 0), -1);
            calls.due("far(3, 4)", withoutA().far(3, 4), 2);
        });
        edges.edge("or can't be.", calls -> {
            FrothShire shire = Calls.told(SIX);
            for (int lord : Calls.noLords(6)) {
                calls.due("far(0, " + lord + ")", shire.far(0, lord), -1);
                calls.due("far(" + lord + ", 0)", shire.far(lord, 0), -1);
                calls.due("far(" + lord + ", " + lord + ")", shire.far(lord, lord), -1);
            }
        });
    }

    private static void promise20(Edges edges) {
        edges.promise(20);
        edges.edge("BANNERS: how many colours.", calls -> {
            String[] texts = {"", "lord a size 1;", TWO, THREE, FOUR, FIVE, SIX, EIGHT};
            int[] due = {0, 1, 1, 3, 4, 4, 3, 4};
            for (int i = 0; i < due.length; i++) {
                calls.due("banners() of " + texts[i], Calls.told(texts[i]).banners(), due[i]);
            }
        });
        edges.edge("That of each LORD (-1: he is gone) lies there then.", calls -> {
            FrothShire shire = withoutA();
            calls.due("banners() without a", shire.banners(), 4);
            calls.dueLying("banners() without a", shire, -1, 0, 1, 2, 2, 3);
            shire = Calls.told(EIGHT);
            shire.banners();
            calls.dueLying("banners() of eight", shire, 0, 1, 2, 3, 3, 2, 1, 2);
            shire.pop(0, 7);
            shire.banners();
            calls.dueLying("banners() without the last", shire, 0, 1, 2, 3, 3, 2, 1, -1);
            shire = new FrothShire();
            shire.banners();
            calls.dueLying("banners() of none", shire);
        });
    }

    private static void promise21(Edges edges) {
        edges.promise(21);
        edges.edge("PEACE: how many WALLS.", calls -> {
            String[] texts = {"", "lord a size 1;", TWO, THREE, FOUR, FIVE, SIX, EIGHT};
            int[] due = {0, 0, 0, 1, 2, 2, 3, 4};
            for (int i = 0; i < due.length; i++) {
                calls.due("peace() of " + texts[i], Calls.told(texts[i]).peace(), due[i]);
            }
        });
        edges.edge("Whom each LORD has (-1: nobody) lies there then.", calls -> {
            FrothShire shire = withoutA();
            calls.due("peace() without a", shire.peace(), 2);
            calls.dueLying("peace() without a", shire, -1, 2, 1, 5, -1, 3);
            shire = Calls.told(TWO);
            shire.peace();
            calls.dueLying("peace() of two", shire, -1, -1);
            shire = Calls.told(EIGHT);
            shire.peace();
            // e, whom a, b, c BORDER alone, has c, when a has b
            calls.dueLying("peace() of eight", shire, 1, 0, 4, 5, 2, 3, 7, 6);
            shire = new FrothShire();
            shire.peace();
            calls.dueLying("peace() of none", shire);
        });
    }

    private static void promise22(Edges edges) {
        edges.promise(22);
        edges.edge("HERMITS what 0: how many, 1: who, as bits;", calls -> {
            String[] texts = {"", "lord a size 1;", TWO, THREE, FOUR, FIVE, SIX, EIGHT};
            int[] many = {0, 1, 2, 1, 1, 2, 2, 3};
            int[] who = {0, 1, 3, 1, 1, 24, 6, 164};
            for (int i = 0; i < many.length; i++) {
                calls.due("hermits(0) of " + texts[i], Calls.told(texts[i]).hermits(0), many[i]);
                calls.due("hermits(1) of " + texts[i], Calls.told(texts[i]).hermits(1), who[i]);
            }
            // who is gone is none of them
            calls.due("hermits(0) without a", withoutA().hermits(0), 2);
            calls.due("hermits(1) without a", withoutA().hermits(1), 24);
            FrothShire shire = Calls.told(FOUR);
            shire.pop(1, 0);
            calls.due("hermits(1) of three who are left", shire.hermits(1), 2);
        });
        edges.edge("NONE for another what.", calls -> {
            for (int what : Calls.outside(0, 1)) {
                calls.due("hermits(" + what + ")", Calls.told(SIX).hermits(what), -1);
                calls.due("hermits(" + what + ") of none", new FrothShire().hermits(what), -1);
            }
        });
    }

    private static void promise23(Edges edges) {
        edges.promise(23);
        edges.edge("CUT what 0: how many, 1: who, as bits;", calls -> {
            calls.due("cut(0, 1, 0) of two", Calls.told(TWO).cut(0, 1, 0), 0);
            calls.due("cut(0, 1, 1) of two", Calls.told(TWO).cut(0, 1, 1), 0);
            calls.due("cut(3, 4, 0) of five", Calls.told(FIVE).cut(3, 4, 0), 3);
            calls.due("cut(4, 3, 1) of five", Calls.told(FIVE).cut(4, 3, 1), 7);
            calls.due("cut(0, 5, 0) of six", Calls.told(SIX).cut(0, 5, 0), 4);
            calls.due("cut(5, 0, 1) of six", Calls.told(SIX).cut(5, 0, 1), 30);
            // d and e are parted by b, c, f alone, without a
            calls.due("cut(3, 4, 0) without a", withoutA().cut(3, 4, 0), 3);
            calls.due("cut(3, 4, 1) without a", withoutA().cut(3, 4, 1), 38);
        });
        edges.edge("NONE if they BORDER,", calls -> {
            for (int what = 0; what < 2; what++) {
                calls.due("cut(0, 1, " + what + ")", Calls.told(SIX).cut(0, 1, what), -1);
                calls.due("cut(1, 0, " + what + ")", Calls.told(SIX).cut(1, 0, what), -1);
                calls.due("cut(0, 1, " + what + ") of three", Calls.told(THREE).cut(0, 1, what), -1);
            }
        });
        edges.edge("both are one,", calls -> {
            for (int lord = 0; lord < 6; lord++) {
                calls.due("cut(" + lord + ", " + lord + ", 0)", Calls.told(SIX).cut(lord, lord, 0), -1);
                calls.due("cut(" + lord + ", " + lord + ", 1)", Calls.told(SIX).cut(lord, lord, 1), -1);
            }
        });
        edges.edge("one is gone,", calls -> {
            calls.due("cut(0, 5, 0)", withoutA().cut(0, 5, 0), -1);
            calls.due("cut(5, 0, 1)", withoutA().cut(5, 0, 1), -1);
        });
        edges.edge("or can't be.", calls -> {
            FrothShire shire = Calls.told(SIX);
            for (int lord : Calls.noLords(6)) {
                calls.due("cut(0, " + lord + ", 0)", shire.cut(0, lord, 0), -1);
                calls.due("cut(" + lord + ", 0, 1)", shire.cut(lord, 0, 1), -1);
            }
            for (int what : Calls.outside(0, 1)) {
                calls.due("cut(0, 5, " + what + ")", shire.cut(0, 5, what), -1);
            }
        });
    }

    private static void promise24(Edges edges) {
        edges.promise(24);
        edges.edge("RING: how many.", calls -> {
            calls.due("ring(0) of one", Calls.told("lord a size 1;").ring(0), 0);
            calls.due("ring(0) of two", Calls.told(TWO).ring(0), 0);
            calls.due("ring(0) of three", Calls.told(THREE).ring(0), 2);
            calls.due("ring(0) of four", Calls.told(FOUR).ring(0), 3);
            calls.due("ring(0) of eight: the most", Calls.told(EIGHT).ring(0), 7);
            calls.due("ring(7) of eight", Calls.told(EIGHT).ring(7), 3);
        });
        edges.edge("They lie there then, in order.", calls -> {
            FrothShire shire = Calls.told(EIGHT);
            shire.ring(0);
            calls.dueLying("ring(0)", shire, 1, 4, 2, 3, 7, 6, 5);
            shire.ring(3);
            calls.dueLying("ring(3)", shire, 0, 2, 1, 5, 6, 7);
            shire.ring(7);
            calls.dueLying("ring(7)", shire, 0, 3, 6);
            shire = Calls.told(THREE);
            shire.ring(0);
            calls.dueLying("ring(0) of three", shire, 1, 2);
            shire = Calls.told(TWO);
            shire.banners();
            shire.ring(0);
            calls.dueLying("ring(0) of two", shire);
        });
        // That nothing lies there behind NONE is what issue 5 asks for.
        edges.edge("NONE if he is gone,", calls -> {
            FrothShire shire = withoutA();
            shire.banners();
            calls.due("ring(0)", shire.ring(0), -1);
            calls.dueLying("ring(0)", shire);
            calls.due("ring(1)", shire.ring(1), 4);
        });
        edges.edge("or there is none such.", calls -> {
            FrothShire shire = Calls.told(SIX);
            for (int lord : Calls.noLords(6)) {
                shire.banners();
                calls.due("ring(" + lord + ")", shire.ring(lord), -1);
                calls.dueLying("ring(" + lord + ")", shire);
            }
            calls.due("ring(0) of none", new FrothShire().ring(0), -1);
        });
    }

    private static void promise37(Edges edges) {
        edges.promise(37);
        edges.edge("The i-th number of what lies there;", calls -> {
            FrothShire shire = Calls.told(EIGHT);
            shire.ring(0);
            int[] due = {1, 4, 2, 3, 7, 6, 5};
            for (int i = 0; i < due.length; i++) {
                calls.due("lies(" + i + ")", shire.lies(i), due[i]);
            }
            // it lies there till other numbers do
            shire.season();
            shire.pop(0, 7);
            shire.undo();
            shire.hermits(0);
            shire.cut(4, 7, 1);
            shire.image(0);
            shire.back(0);
            shire.later(1);
            calls.dueLying("ring(0), and ACTS", shire, 1, 4, 2, 3, 7, 6, 5);
        });
        edges.edge("-2 if there is none such.", calls -> {
            calls.due("lies(0) of a new one", new FrothShire().lies(0), -2);
            FrothShire shire = Calls.told(EIGHT);
            calls.due("lies(0) at first", shire.lies(0), -2);
            shire.banners();
            for (int i : Calls.outside(0, 7)) {
                calls.due("lies(" + i + ") of eight", shire.lies(i), -2);
            }
            // fewer numbers than before
            shire.ring(4);
            for (int i : Calls.outside(0, 2)) {
                calls.due("lies(" + i + ") of three", shire.lies(i), -2);
            }
        });
    }
}
