/** Promises 15 to 19, 25 to 27 and 36: what lies ahead, plans and odds. */
final class AheadPromises {
    private static final String TWO = "lord a size 9;lord b size 5;";
    private static final String THREE = TWO + "lord c size 7;";
    private static final String FOUR = THREE + "lord d size 3 at a b c;";
    // d and e lie on either side of a, b, c
    private static final String FIVE = FOUR + "lord e size 4 at a b c;";
    private static final String GREAT = "lord a size 999;lord b size 999;lord c size 999;lord d size 60 at a b c;";

    private AheadPromises() {
    }

    static void all(Edges edges) {
        promise15(edges);
        promise15None(edges);
        promise16(edges);
        promise17(edges);
        promise18(edges);
        promise25(edges);
        promise25None(edges);
        promise26(edges);
        promise26None(edges);
        promise27(edges);
        promise27Lying(edges);
        promise36(edges);
    }

    /** Of five, d has been taken in by a. */
    private static FrothShire withoutD(String more) {
        FrothShire shire = Calls.told(FIVE + more);
        shire.pop(0, 3);
        return shire;
    }

    private static void promise15(Edges edges) {
        edges.promise(15);
        edges.edge("SIZE of a LORD behind n SEASONS (0 .. 60;", calls -> {
            FrothShire shire = Calls.told(FIVE);
            int[] due = {9, 9, 9, 9, 8, 6, 4, 2, 0, 0};
            for (int n = 0; n < due.length; n++) {
                calls.due("will(0, " + n + ", 0)", shire.will(0, n, 0), due[n]);
            }
            FrothShire one = Calls.told("lord a size 0;grows season;");
            calls.due("will(0, 59, 0)", one.will(0, 59, 0), 999);
            one = Calls.told("lord a size 0;grows 1;");
            calls.due("will(0, 0, 0)", one.will(0, 0, 0), 0);
            calls.due("will(0, 60, 0)", one.will(0, 60, 0), 60);
            calls.due("will(0, 60, 1)", one.will(0, 60, 1), 60);
            // from now on, not from the first season
            one.season();
            one.season();
            calls.due("will(0, 60, 0) later", one.will(0, 60, 0), 62);
        });
        edges.edge("-2: he is gone then);", calls -> {
            FrothShire shire = Calls.told(FIVE);
            int[] due = {3, 2, 1, -2, -2};
            for (int n = 0; n < due.length; n++) {
                calls.due("will(3, " + n + ", 0)", shire.will(3, n, 0), due[n]);
                calls.due("will(3, " + n + ", 1)", shire.will(3, n, 1), due[n]);
            }
            calls.due("will(3, 60, 0)", shire.will(3, 60, 0), -2);
            calls.due("will(3, 0, 0) when he is gone now", withoutD("").will(3, 0, 0), -2);
            // of no SIZE, but THERE
            calls.due("will(0, 60, 0)", shire.will(0, 60, 0), 0);
        });
        edges.edge("straws as the SEED tells (what 1), none (0);", calls -> {
            // the first straw FLIPS b c (SEED 71, CORNER 5), so that b grows no more
            FrothShire shire = Calls.told(FIVE + "grows sides-3;straw 72;");
            calls.due("will(1, 2, 0)", shire.will(1, 2, 0), 7);
            calls.due("will(1, 2, 1)", shire.will(1, 2, 1), 6);
            // 71 is not less than 71
            calls.due("will(1, 2, 1) of straw 71", Calls.told(FIVE + "grows sides-3;straw 71;").will(1, 2, 1), 7);
            for (int n = 0; n < 9; n++) {
                FrothShire told = Calls.told(FIVE + "grows sides*2-7;straw 60;draw 5;");
                int will = told.will(1, n, 1);
                for (int i = 0; i < n; i++) {
                    told.season();
                }
                calls.due("behind " + n + " in earnest", told.lord(1, 0) == 1 ? told.lord(1, 1) : -2, will);
            }
        });
    }

    private static void promise15None(Edges edges) {
        edges.edge("NONE if one can't be.", calls -> {
            FrothShire shire = Calls.told(FIVE);
            for (int lord : Calls.noLords(5)) {
                calls.due("will(" + lord + ", 0, 0)", shire.will(lord, 0, 0), -1);
            }
            for (int n : Calls.outside(0, 60)) {
                calls.due("will(0, " + n + ", 0)", shire.will(0, n, 0), -1);
                calls.due("will(3, " + n + ", 1) when he is gone", withoutD("").will(3, n, 1), -1);
            }
            for (int what : Calls.outside(0, 1)) {
                calls.due("will(0, 0, " + what + ")", shire.will(0, 0, what), -1);
            }
            calls.due("will(0, 0, 0) of none", new FrothShire().will(0, 0, 0), -1);
        });
    }

    private static void promise16(Edges edges) {
        edges.promise(16);
        edges.edge("SIDES of a LORD behind n SEASONS (0 .. 60;", calls -> {
            FrothShire shire = Calls.told(FIVE);
            int[] due = {4, 4, 4, 3, 2, 2};
            for (int n = 0; n < due.length; n++) {
                calls.due("sides(0, " + n + ")", shire.sides(0, n), due[n]);
            }
            calls.due("sides(0, 60)", shire.sides(0, 60), 2);
            calls.due("sides(3, 59) of who goes at 60", Calls.told(GREAT).sides(3, 59), 3);
            calls.due("sides(3, 60) of who goes at 61",
                    Calls.told(GREAT.replace("size 60", "size 61")).sides(3, 60), 3);
            calls.due("sides(0, 60) of two", Calls.told(TWO).sides(0, 60), 0);
        });
        edges.edge("0: he is gone then);", calls -> {
            FrothShire shire = Calls.told(FIVE);
            int[] due = {3, 3, 3, 3, 0, 0};
            for (int n = 0; n < due.length; n++) {
                calls.due("sides(4, " + n + ")", shire.sides(4, n), due[n]);
            }
            calls.due("sides(3, 60)", Calls.told(GREAT).sides(3, 60), 0);
            calls.due("sides(3, 0) when he is gone now", withoutD("").sides(3, 0), 0);
        });
        edges.edge("NONE if one can't be.", calls -> {
            FrothShire shire = Calls.told(FIVE);
            for (int lord : Calls.noLords(5)) {
                calls.due("sides(" + lord + ", 0)", shire.sides(lord, 0), -1);
            }
            for (int n : Calls.outside(0, 60)) {
                calls.due("sides(0, " + n + ")", shire.sides(0, n), -1);
                calls.due("sides(3, " + n + ") when he is gone", withoutD("").sides(3, n), -1);
            }
        });
    }

    private static void promise17(Edges edges) {
        edges.promise(17);
        edges.edge("Who is THERE behind n SEASONS (0 .. 60), as bits;", calls -> {
            FrothShire shire = Calls.told(FIVE);
            int[] due = {31, 31, 31, 23, 7, 7};
            for (int n = 0; n < due.length; n++) {
                calls.due("left(" + n + ")", shire.left(n), due[n]);
            }
            calls.due("left(60)", shire.left(60), 7);
            calls.due("left(59) of who goes at 60", Calls.told(GREAT).left(59), 15);
            calls.due("left(60) of who goes at 60", Calls.told(GREAT).left(60), 7);
            calls.due("left(0) when d is gone", withoutD("").left(0), 23);
            calls.due("left(60) of none", new FrothShire().left(60), 0);
        });
        edges.edge("NONE for another n.", calls -> {
            for (int n : Calls.outside(0, 60)) {
                calls.due("left(" + n + ")", Calls.told(FIVE).left(n), -1);
                calls.due("left(" + n + ") of none", new FrothShire().left(n), -1);
            }
        });
    }

    private static void promise18(Edges edges) {
        edges.promise(18);
        edges.edge("END (0 .. 60; 0: he is gone);", calls -> {
            calls.due("ending(3)", Calls.told(FIVE).ending(3), 3);
            calls.due("ending(4)", Calls.told(FIVE).ending(4), 4);
            calls.due("ending(3) of SIZE 0", Calls.told(GREAT.replace("size 60", "size 0")).ending(3), 1);
            calls.due("ending(3) of SIZE 1", Calls.told(GREAT.replace("size 60", "size 1")).ending(3), 1);
            calls.due("ending(3) of SIZE 59", Calls.told(GREAT.replace("size 60", "size 59")).ending(3), 59);
            calls.due("ending(3) of SIZE 60", Calls.told(GREAT).ending(3), 60);
            calls.due("ending(3) when he is gone", withoutD("").ending(3), 0);
        });
        edges.edge("NONE if not in these,", calls -> {
            FrothShire shire = Calls.told(GREAT.replace("size 60", "size 61"));
            calls.due("ending(3) of SIZE 61", shire.ending(3), -1);
            shire.season();
            calls.due("ending(3) of SIZE 61, later", shire.ending(3), 60);
            calls.due("ending(0) of three", Calls.told(THREE).ending(0), -1);
        });
        edges.edge("or there is none such.", calls -> {
            FrothShire shire = Calls.told(FIVE);
            for (int lord : Calls.noLords(5)) {
                calls.due("ending(" + lord + ")", shire.ending(lord), -1);
            }
            calls.due("ending(0) of none", new FrothShire().ending(0), -1);
        });
    }

    private static void promise25(Edges edges) {
        edges.promise(25);
        edges.edge("SAVE (n 0 .. 30): a * 8 + b;", calls -> {
            FrothShire shire = Calls.told(FIVE);
            calls.due("save(3, 0): a takes in e", shire.save(3, 0), 4);
            calls.due("save(0, 0): a takes in d", shire.save(0, 0), 3);
            calls.due("save(3, 3): he takes in a", shire.save(3, 3), 24);
            // three are left behind any marriage of four, who stay for ever
            calls.due("save(3, 30)", Calls.told(FOUR).save(3, 30), 1);
            calls.due("save(2, 30)", Calls.told(FOUR).save(2, 30), 1);
            calls.due("save(1, 30): not that of a, b", Calls.told(FOUR).save(1, 30), 2);
            // he would be gone behind 30, and not behind 29, but for the marriage of whom he takes in
            shire = Calls.told("lord a size 999;lord b size 999;lord c size 999;lord d size 30 at a b c;"
                    + "lord e size 999 at a b c;");
            calls.due("save(3, 29): a takes in e", shire.save(3, 29), 4);
            calls.due("save(3, 30): he takes in a", shire.save(3, 30), 24);
        });
        edges.edge("NONE if there is none such,", calls -> {
            calls.due("save(0, 0) of two", Calls.told(TWO).save(0, 0), -1);
            calls.due("save(0, 0) of three", Calls.told(THREE).save(0, 0), -1);
            // all come to nothing at once, and he is the first to go, whoever marries
            FrothShire shire = Calls.told(FIVE + "flip a b;grows 0-99;");
            calls.due("save(0, 0)", shire.save(0, 0), 2);
            calls.due("save(0, 1)", shire.save(0, 1), -1);
        });
    }

    private static void promise25None(Edges edges) {
        edges.edge("he is gone,", calls -> {
            calls.due("save(3, 0)", withoutD("").save(3, 0), -1);
            calls.due("save(4, 0)", withoutD("").save(4, 0), 1);
        });
        edges.edge("or one can't be.", calls -> {
            FrothShire shire = Calls.told(FIVE);
            for (int lord : Calls.noLords(5)) {
                calls.due("save(" + lord + ", 0)", shire.save(lord, 0), -1);
            }
            for (int n : Calls.outside(0, 30)) {
                calls.due("save(0, " + n + ")", shire.save(0, n), -1);
            }
        });
    }

    private static void promise26(Edges edges) {
        edges.promise(26);
        edges.edge("BOOST (n 0 .. 30) what 0: the WALL (the lesser * 8 + the other one),", calls -> {
            FrothShire shire = Calls.told(FIVE);
            calls.due("boost(0, 0, 0)", shire.boost(0, 0, 0), 1);
            calls.due("boost(0, 1, 0): b c", shire.boost(0, 1, 0), 10);
            calls.due("boost(1, 1, 0): a c", shire.boost(1, 1, 0), 2);
            calls.due("boost(2, 1, 0): a b", shire.boost(2, 1, 0), 1);
            calls.due("boost(0, 30, 0)", Calls.told(FIVE + "grows 1;").boost(0, 30, 0), 1);
            calls.due("boost(0, 30, 0): b c", Calls.told(FIVE + "grows sides;").boost(0, 30, 0), 10);
        });
        edges.edge("1: SIZE then;", calls -> {
            FrothShire shire = Calls.told(FIVE);
            calls.due("boost(0, 0, 1)", shire.boost(0, 0, 1), 9);
            calls.due("boost(0, 1, 1)", shire.boost(0, 1, 1), 9);
            calls.due("boost(3, 1, 1): four SIDES by each", shire.boost(3, 1, 1), 3);
            calls.due("boost(0, 30, 1)", Calls.told(FIVE + "grows 1;").boost(0, 30, 1), 39);
            calls.due("boost(0, 30, 1): four SIDES", Calls.told(FIVE + "grows sides;").boost(0, 30, 1), 129);
            calls.due("boost(0, 30, 1) of the greatest", Calls.told(FIVE + "grows 99;").boost(0, 30, 1), 999);
            calls.due("boost(4, 30, 1): gone by each", Calls.told(FIVE + "grows 0-99;").boost(4, 30, 1), 0);
        });
    }

    private static void promise26None(Edges edges) {
        edges.edge("NONE if no WALL can be FLIPPED,", calls -> {
            for (String text : new String[] {"lord a size 1;", TWO, THREE, FOUR}) {
                calls.due("boost(0, 0, 0) of " + text, Calls.told(text).boost(0, 0, 0), -1);
                calls.due("boost(0, 0, 1) of " + text, Calls.told(text).boost(0, 0, 1), -1);
            }
        });
        edges.edge("he is gone,", calls -> {
            FrothShire shire = Calls.told(FIVE + "lord f size 6 at a b d;");
            shire.pop(0, 5);
            calls.due("boost(0, 0, 0)", shire.boost(0, 0, 0), 1);
            calls.due("boost(5, 0, 0)", shire.boost(5, 0, 0), -1);
            calls.due("boost(5, 0, 1)", shire.boost(5, 0, 1), -1);
        });
        edges.edge("or one can't be.", calls -> {
            FrothShire shire = Calls.told(FIVE);
            for (int lord : Calls.noLords(5)) {
                calls.due("boost(" + lord + ", 0, 0)", shire.boost(lord, 0, 0), -1);
            }
            for (int n : Calls.outside(0, 30)) {
                calls.due("boost(0, " + n + ", 0)", shire.boost(0, n, 0), -1);
                calls.due("boost(0, " + n + ", 1)", shire.boost(0, n, 1), -1);
            }
            for (int what : Calls.outside(0, 1)) {
                calls.due("boost(0, 0, " + what + ")", shire.boost(0, 0, what), -1);
            }
        });
    }

    private static void promise27(Edges edges) {
        edges.promise(27);
        edges.edge("PRICKS: how many RESTS;", calls -> {
            calls.due("pricks(0, 1) of two: none and none", Calls.told(TWO).pricks(0, 1), 1);
            calls.due("pricks(0, 1) of four", Calls.told(FOUR).pricks(0, 1), 5);
            calls.due("pricks(0, 3) of five", Calls.told(FIVE).pricks(0, 3), 3);
            calls.due("pricks(4, 5) of six", Calls.told(FIVE + "lord f size 1 at a c d;").pricks(4, 5), 7);
        });
        edges.edge("NONE if both are one,", calls -> {
            FrothShire shire = Calls.told(FIVE);
            for (int lord = 0; lord < 5; lord++) {
                calls.due("pricks(" + lord + ", " + lord + ")", shire.pricks(lord, lord), -1);
            }
        });
        edges.edge("one is gone,", calls -> {
            calls.due("pricks(3, 0)", withoutD("").pricks(3, 0), -1);
            calls.due("pricks(0, 3)", withoutD("").pricks(0, 3), -1);
        });
        edges.edge("or can't be.", calls -> {
            FrothShire shire = Calls.told(FIVE);
            for (int lord : Calls.noLords(5)) {
                calls.due("pricks(0, " + lord + ")", shire.pricks(0, lord), -1);
                calls.due("pricks(" + lord + ", 0)", shire.pricks(lord, 0), -1);
            }
        });
    }

    private static void promise27Lying(Edges edges) {
        edges.edge("Whom each takes in in the first of these lies there then (-1: he does none; the first one's, the other"
                + " one's; of like ones the least numbers;", calls -> {
            // -1 is the least number, though others take in somebody
            FrothShire shire = Calls.told(FOUR);
            shire.pricks(0, 1);
            calls.dueLying("pricks(0, 1) of four", shire, -1, -1);
            // the first takes in a rather than c, by whom he has as many SIDES
            shire = Calls.told(FIVE + "lord f size 1 at a c d;");
            shire.pricks(5, 4);
            calls.dueLying("pricks(5, 4)", shire, 0, -1);
            // d takes in a, then f takes in e
            shire = Calls.told(FIVE + "lord f size 4 at b c e;");
            shire.pricks(3, 5);
            calls.dueLying("pricks(3, 5)", shire, 0, 4);
            // the last of eight can be taken in, too
            shire = Calls.told(FOUR + "lord e size 12 at d a b;lord f size 9 at a c b;lord g size 6 at e d a;"
                    + "lord h size 0 at c a f;flip f a;flip a b;");
            shire.pricks(0, 2);
            calls.dueLying("pricks(0, 2)", shire, 7, 3);
        });
        edges.edge("behind 0, NONE: nothing).", calls -> {
            FrothShire shire = Calls.told(FOUR + "lord e size 6 at c d b;lord f size 2 at c b e;lord g size 5 at b c a;");
            shire.ring(0);
            calls.due("pricks(5, 6)", shire.pricks(5, 6), 0);
            calls.dueLying("pricks(5, 6)", shire);
            for (int other : new int[] {5, -1, 7, 8}) {
                shire.ring(0);
                calls.due("pricks(5, " + other + ")", shire.pricks(5, other), -1);
                calls.dueLying("pricks(5, " + other + ")", shire);
            }
            shire.pricks(0, 1);
            shire.pop(6, 0);
            calls.due("pricks(0, 1) when he is gone", shire.pricks(0, 1), -1);
            calls.dueLying("pricks(0, 1) when he is gone", shire);
        });
    }

    private static void promise36(Edges edges) {
        edges.promise(36);
        edges.edge("ODDS (n 0 .. 4) the upper part (0), the lower part (1),", calls -> {
            int[] upper = {1, 7, 49, 343, 2401};
            int[] lower = {1, 10, 100, 1000, 10000};
            FrothShire shire = Calls.told("straw 30;");
            for (int n = 0; n < 5; n++) {
                calls.due("odds(" + n + ", 0)", shire.odds(n, 0), upper[n]);
                calls.due("odds(" + n + ", 1)", shire.odds(n, 1), lower[n]);
            }
            calls.due("odds(4, 0) of straw 1", Calls.told("straw 1;").odds(4, 0), 99 * 99 * 99 * 99);
            calls.due("odds(4, 1) of straw 1", Calls.told("straw 1;").odds(4, 1), 100 * 100 * 100 * 100);
        });
        edges.edge("in lowest terms (0 of 1);", calls -> {
            int[][] due = {{0, 4, 1, 1}, {50, 4, 1, 16}, {75, 2, 1, 16}, {98, 3, 1, 125000}, {99, 4, 1, 100000000},
                {100, 0, 1, 1}, {100, 1, 0, 1}, {100, 4, 0, 1}, {20, 1, 4, 5}};
            for (int[] one : due) {
                FrothShire shire = Calls.told("straw " + one[0] + ";");
                calls.due("odds(" + one[1] + ", 0) of straw " + one[0], shire.odds(one[1], 0), one[2]);
                calls.due("odds(" + one[1] + ", 1) of straw " + one[0], shire.odds(one[1], 1), one[3]);
            }
            calls.due("odds(4, 0) of a new one", new FrothShire().odds(4, 0), 1);
            calls.due("odds(4, 1) of a new one", new FrothShire().odds(4, 1), 1);
        });
        edges.edge("NONE if one can't be.", calls -> {
            FrothShire shire = Calls.told("straw 30;");
            for (int n : Calls.outside(0, 4)) {
                calls.due("odds(" + n + ", 0)", shire.odds(n, 0), -1);
            }
            for (int part : Calls.outside(0, 1)) {
                calls.due("odds(1, " + part + ")", shire.odds(1, part), -1);
            }
        });
    }
}
