/** Promises 6 to 8, 28 to 35 and 46: what is now. */
final class NowPromises {
    private static final String TWO = "lord a size 9;lord b size 5;";
    private static final String THREE = TWO + "lord c size 7;";
    private static final String FOUR = THREE + "lord d size 3 at a b c;";
    private static final String FIVE = FOUR + "lord e size 4 at a b c;";
    // SIDES 5, 5, 4, 4, 3, 3: f lies between a, b and d
    private static final String SIX = FIVE + "lord f size 6 at a b d;";
    // an octahedron: each has four SIDES; a and f, b and c, d and e do not BORDER
    private static final String EVEN = FIVE + "lord f size 6 at b c d;flip b c;";
    private static final String EIGHT = SIX + "lord g size 7 at a d f;lord h size 8 at a d g;";

    private NowPromises() {
    }

    static void all(Edges edges) {
        promise6(edges);
        promise6None(edges);
        promise7(edges);
        promise8(edges);
        promise8None(edges);
        promise28(edges);
        promise29(edges);
        promise30(edges);
        promise31(edges);
        promise32(edges);
        promise33(edges);
        promise34(edges);
        promise35(edges);
        promise46(edges);
        promise46Kept(edges);
        promise46Other(edges);
    }

    /** Of six, f has been taken in by a. */
    private static FrothShire withoutF(String more) {
        FrothShire shire = Calls.told(SIX + more);
        shire.pop(0, 5);
        return shire;
    }

    private static void dueOfEach(Calls calls, String text, int what, int... want) {
        FrothShire shire = Calls.told(text);
        for (int lord = 0; lord < want.length; lord++) {
            calls.due("lord(" + lord + ", " + what + ")", shire.lord(lord, what), want[lord]);
        }
    }

    private static void promise6(Edges edges) {
        edges.promise(6);
        edges.edge("Of a LORD what 0: 1 if THERE, else 0,", calls -> {
            dueOfEach(calls, EIGHT, 0, 1, 1, 1, 1, 1, 1, 1, 1);
            calls.due("lord(5, 0) when he is taken in", withoutF("").lord(5, 0), 0);
            FrothShire shire = Calls.told(EIGHT.replace("h size 8", "h size 0") + "grows 0;");
            calls.due("lord(7, 0) of no SIZE", shire.lord(7, 0), 1);
            shire.season();
            calls.due("lord(7, 0) when he has vanished", shire.lord(7, 0), 0);
        });
        edges.edge("1: SIZE,", calls -> {
            dueOfEach(calls, EIGHT, 1, 9, 5, 7, 3, 4, 6, 7, 8);
            dueOfEach(calls, "lord a size 0;lord b size 999;", 1, 0, 999);
            calls.due("lord(0, 1) behind pop()", withoutF("").lord(0, 1), 15);
            calls.due("lord(5, 1) when he is gone", withoutF("").lord(5, 1), 0);
        });
        edges.edge("2: SIDES (0 if gone),", calls -> {
            dueOfEach(calls, SIX, 2, 5, 5, 4, 4, 3, 3);
            dueOfEach(calls, TWO, 2, 0, 0);
            dueOfEach(calls, THREE, 2, 2, 2, 2);
            calls.due("lord(5, 2) when he is gone", withoutF("").lord(5, 2), 0);
            calls.due("lord(0, 2) behind pop()", withoutF("").lord(0, 2), 4);
        });
        edges.edge("3: whom he BORDERS, as bits,", calls -> {
            dueOfEach(calls, SIX, 3, 62, 61, 27, 39, 7, 11);
            dueOfEach(calls, TWO, 3, 0, 0);
            dueOfEach(calls, THREE, 3, 6, 5, 3);
            calls.due("lord(0, 3) of eight", Calls.told(EIGHT).lord(0, 3), 254);
            calls.due("lord(0, 3) when f is gone", withoutF("").lord(0, 3), 30);
            calls.due("lord(5, 3) when he is gone", withoutF("").lord(5, 3), 0);
        });
        edges.edge("4: by how much he grows next (0 if gone);", calls -> {
            dueOfEach(calls, SIX, 4, 1, 1, 0, 0, -1, -1);
            dueOfEach(calls, SIX + "grows size*20-100;", 4, 80, 0, 40, -40, -20, 20);
            // who is gone has 0, though grows tells another number
            calls.due("lord(0, 4) by 9", withoutF("grows 9;").lord(0, 4), 9);
            calls.due("lord(5, 4) by 9, when he is gone", withoutF("grows 9;").lord(5, 4), 0);
            // by how much, even where his SIZE can't grow so
            dueOfEach(calls, "lord a size 0;lord b size 999;grows (size>0)*60-30;", 4, -30, 30);
        });
    }

    private static void promise6None(Edges edges) {
        edges.edge("-100 if there is none such,", calls -> {
            FrothShire shire = Calls.told(SIX);
            for (int lord : Calls.noLords(6)) {
                for (int what = 0; what < 5; what++) {
                    calls.due("lord(" + lord + ", " + what + ")", shire.lord(lord, what), -100);
                }
            }
            calls.due("lord(0, 0) of none", Calls.told("").lord(0, 0), -100);
            calls.due("lord(8, 0) of eight", Calls.told(EIGHT).lord(8, 0), -100);
        });
        edges.edge("or for another what.", calls -> {
            for (int what : Calls.outside(0, 4)) {
                calls.due("lord(0, " + what + ")", Calls.told(SIX).lord(0, what), -100);
                calls.due("lord(5, " + what + ") when he is gone", withoutF("").lord(5, what), -100);
            }
        });
    }

    private static void promise7(Edges edges) {
        edges.promise(7);
        edges.edge("Of a CORNER its LORD 0, 1, 2 (the least number first);", calls -> {
            FrothShire shire = Calls.told(SIX);
            int[] due = {0, 1, 4, 0, 1, 5, 0, 2, 3, 0, 2, 4, 0, 3, 5, 1, 2, 3, 1, 2, 4, 1, 3, 5};
            for (int i = 0; i < due.length; i++) {
                calls.due("corner(" + i / 3 + ", " + i % 3 + ")", shire.corner(i / 3, i % 3), due[i]);
            }
            // f is in the place of b now, and the last of each
            shire.pop(5, 1);
            calls.due("corner(5, 0) behind pop()", shire.corner(5, 0), 2);
            calls.due("corner(5, 1) behind pop()", shire.corner(5, 1), 4);
            calls.due("corner(5, 2) behind pop()", shire.corner(5, 2), 5);
            shire = Calls.told(EIGHT);
            calls.due("corner(11, 0) of twelve", shire.corner(11, 0), 3);
            calls.due("corner(11, 1) of twelve", shire.corner(11, 1), 6);
            calls.due("corner(11, 2) of twelve", shire.corner(11, 2), 7);
        });
        edges.edge("NONE if there is none such.", calls -> {
            FrothShire shire = Calls.told(SIX);
            for (int corner : Calls.outside(0, 7)) {
                calls.due("corner(" + corner + ", 0)", shire.corner(corner, 0), -1);
            }
            for (int which : Calls.outside(0, 2)) {
                calls.due("corner(0, " + which + ")", shire.corner(0, which), -1);
            }
            calls.due("corner(12, 0) of eight", Calls.told(EIGHT).corner(12, 0), -1);
            calls.due("corner(2, 0) of three", Calls.told(THREE).corner(2, 0), -1);
            calls.due("corner(0, 0) of two", Calls.told(TWO).corner(0, 0), -1);
            shire.pop(0, 5);
            calls.due("corner(6, 0) behind pop()", shire.corner(6, 0), -1);
        });
    }

    private static void promise8(Edges edges) {
        edges.promise(8);
        edges.edge("Of two LORDS who are THERE 0: they do not BORDER,", calls -> {
            calls.due("wall(0, 1) of two", Calls.told(TWO).wall(0, 1), 0);
            calls.due("wall(3, 4)", Calls.told(SIX).wall(3, 4), 0);
            calls.due("wall(5, 2)", Calls.told(SIX).wall(5, 2), 0);
        });
        edges.edge("else 1,", calls -> {
            calls.due("wall(0, 1) of three", Calls.told(THREE).wall(0, 1), 1);
            calls.due("wall(2, 0) of three", Calls.told(THREE).wall(2, 0), 1);
            calls.due("wall(1, 2) of three", Calls.told(THREE).wall(1, 2), 1);
            // of more than three each WALL can be FLIPPED or POPPED: of two who both BORDER three others it goes between
            // two of these who do not BORDER
            FrothShire shire = Calls.told(EIGHT);
            for (int other = 1; other < 8; other++) {
                calls.due("wall(0, " + other + ") of eight, odd", shire.wall(0, other) & 1, 1);
                calls.due("wall(0, " + other + ") of eight, more than 1", shire.wall(0, other) > 1, true);
            }
        });
        edges.edge("and 2 more if their WALL can be FLIPPED,", calls -> {
            calls.due("wall(0, 1) of five: three aunts", Calls.told(FIVE).wall(0, 1), 3);
            calls.due("wall(1, 0) of five", Calls.told(FIVE).wall(1, 0), 3);
            calls.due("wall(0, 1) of six", Calls.told(SIX).wall(0, 1), 3);
            calls.due("wall(2, 3) of six: a and b BORDER", Calls.told(SIX).wall(2, 3), 5);
            calls.due("wall(0, 1) of an octahedron: both", Calls.told(EVEN).wall(0, 1), 7);
        });
        edges.edge("4 more if it can be POPPED;", calls -> {
            calls.due("wall(0, 1) of four", Calls.told(FOUR).wall(0, 1), 5);
            calls.due("wall(0, 3) of five", Calls.told(FIVE).wall(0, 3), 5);
            calls.due("wall(3, 0) of five", Calls.told(FIVE).wall(3, 0), 5);
            FrothShire shire = Calls.told(FOUR);
            shire.pop(0, 1);
            calls.due("wall(0, 2) of three who are left", shire.wall(0, 2), 1);
        });
    }

    private static void promise8None(Edges edges) {
        edges.edge("NONE if both are one,", calls -> {
            FrothShire shire = Calls.told(SIX);
            for (int lord = 0; lord < 6; lord++) {
                calls.due("wall(" + lord + ", " + lord + ")", shire.wall(lord, lord), -1);
            }
        });
        edges.edge("or one can't be.", calls -> {
            FrothShire shire = withoutF("");
            for (int lord : Calls.noLords(6)) {
                calls.due("wall(0, " + lord + ")", shire.wall(0, lord), -1);
                calls.due("wall(" + lord + ", 0)", shire.wall(lord, 0), -1);
            }
            calls.due("wall(0, 5) when he is gone", shire.wall(0, 5), -1);
            calls.due("wall(5, 0) when he is gone", shire.wall(5, 0), -1);
        });
    }

    private static void promise28(Edges edges) {
        edges.promise(28);
        edges.edge("Who has just 3 SIDES, as bits.", calls -> {
            calls.due("thirds() of none", new FrothShire().thirds(), 0);
            calls.due("thirds() of two: 0", Calls.told(TWO).thirds(), 0);
            calls.due("thirds() of three: 2", Calls.told(THREE).thirds(), 0);
            calls.due("thirds() of four", Calls.told(FOUR).thirds(), 15);
            calls.due("thirds() of six", Calls.told(SIX).thirds(), 48);
            calls.due("thirds() of an octahedron: 4", Calls.told(EVEN).thirds(), 0);
            calls.due("thirds() of eight", Calls.told(EIGHT).thirds(), 16 + 128);
            calls.due("thirds() when f is gone", withoutF("").thirds(), 24);
        });
    }

    private static void promise29(Edges edges) {
        edges.promise(29);
        edges.edge("Who grows by 0 next, as bits.", calls -> {
            calls.due("sleepers() of none", new FrothShire().sleepers(), 0);
            calls.due("sleepers() of six", Calls.told(SIX).sleepers(), 12);
            calls.due("sleepers() by 0", Calls.told(EIGHT + "grows 0;").sleepers(), 255);
            calls.due("sleepers() by 1", Calls.told(EIGHT + "grows 1;").sleepers(), 0);
            calls.due("sleepers() by -1", Calls.told(EIGHT + "grows 0-1;").sleepers(), 0);
            calls.due("sleepers() by 0 when f is gone", withoutF("grows 0;").sleepers(), 31);
            // who can't get smaller grows by less than 0, and sleeps not
            calls.due("sleepers() of no SIZE", Calls.told("lord a size 0;").sleepers(), 0);
        });
    }

    private static void promise30(Edges edges) {
        edges.promise(30);
        edges.edge("The LORD of most SIDES;", calls -> {
            calls.due("king() of eight", Calls.told(EIGHT).king(), 0);
            calls.due("king() behind a flip", Calls.told(SIX + "flip a c;").king(), 1);
            FrothShire shire = Calls.told(EIGHT);
            shire.pop(7, 0);
            calls.due("king() when the last has taken in the first", shire.king(), 7);
        });
        edges.edge("of like ones the first;", calls -> {
            calls.due("king() of one", Calls.told("lord a size 0;").king(), 0);
            calls.due("king() of two: 0 each", Calls.told(TWO).king(), 0);
            calls.due("king() of an octahedron", Calls.told(EVEN).king(), 0);
            FrothShire shire = Calls.told(FOUR);
            shire.pop(3, 0);
            calls.due("king() when the first is gone", shire.king(), 1);
            calls.due("king() of a, d, e: 4 each", Calls.told(FIVE + "flip b c;").king(), 0);
            calls.due("king() of c, d, e: 4 each", Calls.told(FIVE + "flip a b;").king(), 2);
        });
        edges.edge("NONE if none is THERE.", calls -> {
            calls.due("king() of a new one", new FrothShire().king(), -1);
            calls.due("king() of no LORDS", Calls.told("straw 5;").king(), -1);
        });
    }

    private static void promise31(Edges edges) {
        edges.promise(31);
        edges.edge("How many WALLS can be FLIPPED.", calls -> {
            int[] due = {0, 0, 0, 0, 3, 5, 12};
            String[] texts = {"", TWO, THREE, FOUR, FIVE, SIX, EVEN};
            for (int i = 0; i < due.length; i++) {
                calls.due("restless() of " + texts[i], Calls.told(texts[i]).restless(), due[i]);
            }
        });
    }

    private static void promise32(Edges edges) {
        edges.promise(32);
        edges.edge("How many WALLS can be POPPED.", calls -> {
            int[] due = {0, 0, 0, 6, 6, 7, 12};
            String[] texts = {"", TWO, THREE, FOUR, FIVE, SIX, EVEN};
            for (int i = 0; i < due.length; i++) {
                calls.due("brides() of " + texts[i], Calls.told(texts[i]).brides(), due[i]);
            }
            FrothShire shire = Calls.told(FOUR);
            shire.pop(0, 1);
            calls.due("brides() of three who are left", shire.brides(), 0);
        });
    }

    private static void promise33(Edges edges) {
        edges.promise(33);
        edges.edge("All SIZES together.", calls -> {
            calls.due("acres() of none", new FrothShire().acres(), 0);
            calls.due("acres() of eight", Calls.told(EIGHT).acres(), 49);
            calls.due("acres() behind pop()", withoutF("").acres(), 34);
            String most = EIGHT.replaceAll("size [0-9]", "size 999");
            calls.due("acres() of the greatest", Calls.told(most).acres(), 8 * 999);
            FrothShire shire = Calls.told(most);
            shire.pop(0, 7);
            calls.due("acres() of the greatest, behind pop()", shire.acres(), 7 * 999);
        });
    }

    private static void promise34(Edges edges) {
        edges.promise(34);
        edges.edge("How many LORDS grow by more than 0 next, if each SIZE were n (0 .. 999);", calls -> {
            // a and b, who have five SIDES, are near to 5 * n
            FrothShire shire = Calls.told(SIX + "grows near-size*4;");
            calls.due("law(0)", shire.law(0), 0);
            calls.due("law(1)", shire.law(1), 2);
            calls.due("law(999)", shire.law(999), 2);
            calls.due("lord(0, 1) stays", shire.lord(0, 1), 9);
            shire = Calls.told(SIX + "grows size>998;");
            calls.due("law(998) by size>998", shire.law(998), 0);
            calls.due("law(999) by size>998", shire.law(999), 6);
            calls.due("law(0) by -1", Calls.told(SIX + "grows 0-1;").law(0), 0);
            calls.due("law(0) by 1", Calls.told(SIX + "grows 1;").law(0), 6);
            calls.due("law(0) by 1 when f is gone", withoutF("grows 1;").law(0), 5);
            calls.due("law(0) by lords=5 when f is gone", withoutF("grows lords=5;").law(0), 5);
            // who is gone is not near
            calls.due("law(1) by near=4 when f is gone", withoutF("grows near=4;").law(1), 3);
            shire = Calls.told(SIX + "grows season=1;");
            calls.due("law(0) by season=1", shire.law(0), 0);
            shire.season();
            calls.due("law(0) by season=1, later", shire.law(0), 6);
            calls.due("law(0) of none", new FrothShire().law(0), 0);
        });
        edges.edge("NONE for another n.", calls -> {
            for (int n : Calls.outside(0, 999)) {
                calls.due("law(" + n + ")", Calls.told(SIX).law(n), -1);
                calls.due("law(" + n + ") of none", new FrothShire().law(n), -1);
            }
        });
    }

    private static void promise35(Edges edges) {
        edges.promise(35);
        edges.edge("How many LORDS who BORDER both of two others;", calls -> {
            calls.due("aunts(0, 1) of two", Calls.told(TWO).aunts(0, 1), 0);
            calls.due("aunts(0, 1) of three", Calls.told(THREE).aunts(0, 1), 1);
            FrothShire shire = Calls.told(SIX);
            calls.due("aunts(0, 1)", shire.aunts(0, 1), 4);
            calls.due("aunts(1, 0)", shire.aunts(1, 0), 4);
            // they need not BORDER one another
            calls.due("aunts(4, 5)", shire.aunts(4, 5), 2);
            calls.due("aunts(0, 1) when f is gone", withoutF("").aunts(0, 1), 3);
        });
        edges.edge("NONE if both are one,", calls -> {
            FrothShire shire = Calls.told(SIX);
            for (int lord = 0; lord < 6; lord++) {
                calls.due("aunts(" + lord + ", " + lord + ")", shire.aunts(lord, lord), -1);
            }
        });
        edges.edge("one is gone,", calls -> {
            calls.due("aunts(0, 5)", withoutF("").aunts(0, 5), -1);
            calls.due("aunts(5, 0)", withoutF("").aunts(5, 0), -1);
        });
        edges.edge("or can't be.", calls -> {
            FrothShire shire = Calls.told(SIX);
            for (int lord : Calls.noLords(6)) {
                calls.due("aunts(0, " + lord + ")", shire.aunts(0, lord), -1);
                calls.due("aunts(" + lord + ", 0)", shire.aunts(lord, 0), -1);
            }
        });
    }

    private static void dueAbout(Calls calls, String when, FrothShire shire, int what, int want) {
        calls.due("about(" + what + ") " + when, shire.about(what), want);
    }

    private static void promise46(Edges edges) {
        edges.promise(46);
        String[] texts = {"", TWO, THREE, FOUR, SIX, EIGHT};
        int[] lords = {0, 2, 3, 4, 6, 8};
        edges.edge("What 0: LORDS,", calls -> {
            for (int i = 0; i < texts.length; i++) {
                dueAbout(calls, "of " + lords[i], Calls.told(texts[i]), 0, lords[i]);
            }
            // those who are gone, too: as lord() knows them
            dueAbout(calls, "when f is gone", withoutF(""), 0, 6);
        });
        edges.edge("1: who is THERE, as bits,", calls -> {
            for (int i = 0; i < texts.length; i++) {
                dueAbout(calls, "of " + lords[i], Calls.told(texts[i]), 1, (1 << lords[i]) - 1);
            }
            dueAbout(calls, "when f is gone", withoutF(""), 1, 31);
        });
        edges.edge("2: CORNERS,", calls -> {
            int[] due = {0, 0, 2, 4, 8, 12};
            for (int i = 0; i < texts.length; i++) {
                dueAbout(calls, "of " + lords[i], Calls.told(texts[i]), 2, due[i]);
            }
            dueAbout(calls, "when f is gone", withoutF(""), 2, 6);
        });
        edges.edge("3: WALLS,", calls -> {
            int[] due = {0, 0, 3, 6, 12, 18};
            for (int i = 0; i < texts.length; i++) {
                dueAbout(calls, "of " + lords[i], Calls.told(texts[i]), 3, due[i]);
            }
            dueAbout(calls, "when f is gone", withoutF(""), 3, 9);
        });
        edges.edge("4: the season,", calls -> {
            FrothShire shire = Calls.told(SIX);
            dueAbout(calls, "at first", shire, 4, 0);
            shire.season();
            dueAbout(calls, "later", shire, 4, 1);
            shire.undo();
            dueAbout(calls, "taken back", shire, 4, 0);
        });
        edges.edge("5: the SEED,", calls -> {
            FrothShire shire = Calls.told("draw 999;");
            dueAbout(calls, "at first", shire, 5, 999);
            shire.season();
            dueAbout(calls, "later", shire, 5, 934);
            shire.undo();
            dueAbout(calls, "taken back", shire, 5, 999);
        });
    }

    private static void promise46Kept(Edges edges) {
        edges.edge("6: ACTS that can be undone,", calls -> {
            FrothShire shire = Calls.told(SIX);
            dueAbout(calls, "at first", shire, 6, 0);
            for (int i = 1; i <= 41; i++) {
                shire.gift(0, 1);
                dueAbout(calls, "behind " + i, shire, 6, Math.min(i, 40));
            }
            shire.undo();
            dueAbout(calls, "behind undo()", shire, 6, 39);
            shire.redo();
            dueAbout(calls, "behind redo()", shire, 6, 40);
        });
        edges.edge("7: redone,", calls -> {
            FrothShire shire = Calls.told(SIX);
            shire.gift(0, 1);
            shire.gift(0, 1);
            dueAbout(calls, "at first", shire, 7, 0);
            shire.undo();
            shire.undo();
            dueAbout(calls, "behind undo() twice", shire, 7, 2);
            shire.redo();
            dueAbout(calls, "behind redo()", shire, 7, 1);
            shire.gift(0, 1);
            dueAbout(calls, "behind another ACT", shire, 7, 0);
        });
        edges.edge("8: what is SEEN,", calls -> {
            FrothShire shire = Calls.told(SIX);
            dueAbout(calls, "at first", shire, 8, 0);
            for (int i = 1; i <= 31; i++) {
                shire.seen(0, 0, true);
                dueAbout(calls, "behind " + i, shire, 8, Math.min(i, 30));
            }
        });
        edges.edge("9: the TIME,", calls -> {
            FrothShire shire = new FrothShire();
            dueAbout(calls, "at first", shire, 9, 0);
            shire.later(1000);
            shire.later(5);
            dueAbout(calls, "later", shire, 9, 1005);
        });
        edges.edge("10: bytes on the TAPE,", calls -> {
            FrothShire shire = new FrothShire();
            shire.feed(0, 0, 0, 0, 0);
            dueAbout(calls, "behind feed()", shire, 10, 20);
            shire.end(13);
            dueAbout(calls, "behind end(13)", shire, 10, 13);
            shire.shire();
            dueAbout(calls, "behind shire()", shire, 10, 0);
        });
    }

    private static void promise46Other(Edges edges) {
        edges.edge("11: units,", calls -> {
            dueAbout(calls, "when grows is not told", Calls.told(SIX), 11, 0);
            dueAbout(calls, "of one", Calls.told("grows 1;"), 11, 1);
            dueAbout(calls, "of 30", Calls.told("grows 1" + "+1".repeat(29) + ";"), 11, 30);
            dueAbout(calls, "of ( ) within", Calls.told("grows (not sides)+(1);"), 11, 4);
        });
        edges.edge("12: numbers that lie there,", calls -> {
            FrothShire shire = Calls.told(EIGHT);
            dueAbout(calls, "at first", shire, 12, 0);
            shire.banners();
            dueAbout(calls, "behind banners()", shire, 12, 8);
            shire.peace();
            dueAbout(calls, "behind peace()", shire, 12, 8);
            shire.ring(4);
            dueAbout(calls, "behind ring(4)", shire, 12, 3);
            shire.pricks(0, 0);
            dueAbout(calls, "behind pricks(0, 0)", shire, 12, 0);
        });
        edges.edge("13: straw in 100.", calls -> {
            dueAbout(calls, "when it is not told", Calls.told(SIX), 13, 0);
            dueAbout(calls, "of straw 100", Calls.told("straw 100;"), 13, 100);
            dueAbout(calls, "of straw 7", Calls.told("straw 7;"), 13, 7);
        });
        edges.edge("NONE for another what.", calls -> {
            for (int what : Calls.outside(0, 13)) {
                dueAbout(calls, "of six", Calls.told(SIX), what, -1);
                dueAbout(calls, "of none", new FrothShire(), what, -1);
            }
        });
    }
}
