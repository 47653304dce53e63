/** Promises 9 to 14, 44 and 45: ACTS, UNDO and REDO, BOXES. */
final class ActPromises {
    private static final String THREE = "lord a size 9;lord b size 5;lord c size 7;";
    private static final String FOUR = THREE + "lord d size 3 at a b c;";
    // d and e lie on either side of a, b, c
    private static final String FIVE = FOUR + "lord e size 4 at a b c;";
    private static final String EIGHT = FIVE + "lord f size 6 at a b d;lord g size 7 at a d f;lord h size 8 at a d g;";

    private ActPromises() {
    }

    static void all(Edges edges) {
        promise9(edges);
        promise10(edges);
        promise11(edges);
        promise12(edges);
        promise12None(edges);
        promise13(edges);
        promise14(edges);
        promise44(edges);
        promise45(edges);
        promise45None(edges);
    }

    private static void promise9(Edges edges) {
        edges.promise(9);
        edges.edge("A SEASON: who is gone by it, as bits;", calls -> {
            FrothShire shire = Calls.told(FIVE);
            int[] due = {0, 0, 8, 16, 0, 0};
            for (int i = 0; i < due.length; i++) {
                calls.due("season() number " + i, shire.season(), due[i]);
            }
            calls.due("season(): the last of eight",
                    Calls.told(EIGHT.replace("h size 8", "h size 0") + "grows 0;").season(), 128);
            calls.due("season(): two", Calls.told(FIVE + "grows 0-(sides=3)*4;").season(), 24);
            // who was gone already is not gone by it
            shire = Calls.told(FIVE + "grows 0-(sides=3)*4;");
            shire.pop(0, 3);
            calls.due("season(): not he who was taken in", shire.season() & 8, 0);
            calls.due("season() of none", new FrothShire().season(), 0);
        });
        // Behind its 512th call nothing is promised of an object; this one goes on as before.
        edges.edge("NONE, doing nothing, behind 999 of them.", calls -> {
            FrothShire shire = Calls.told(FIVE + "straw 50;draw 3;grows season%3-1;");
            for (int i = 0; i < 998; i++) {
                shire.season();
            }
            calls.due("season() number 999", shire.season() != -1, true);
            calls.due("about(4)", shire.about(4), 999);
            shire.gift(0, 1);
            shire.undo();
            calls.dueRefused("season() number 1,000", shire, shire::season);
            calls.due("image(0)", shire.image(0), 999);
            shire.undo();
            calls.due("about(4) behind undo()", shire.about(4), 998);
            calls.due("season() number 999 again", shire.season() != -1, true);
            shire.undo();
            shire.back(0);
            calls.dueRefused("season() behind back()", shire, shire::season);
        });
        edges.edge("(An ACT.)", calls -> {
            FrothShire shire = Calls.told(FIVE + "straw 50;draw 3;");
            for (int i = 0; i < 5; i++) {
                calls.dueAct("season() number " + i, shire, shire::season);
            }
        });
    }

    private static void promise10(Edges edges) {
        edges.promise(10);
        edges.edge("A WALL is FLIPPED: between which LORDS it is then, the lesser * 8 + the other one;", calls -> {
            FrothShire shire = Calls.told(FIVE);
            int[][] due = {{0, 1, 28}, {4, 3, 1}, {1, 0, 28}, {3, 4, 1}, {2, 1, 28}, {3, 4, 10}, {2, 0, 28}, {4, 3, 2}};
            for (int[] one : due) {
                calls.due("flip(" + one[0] + ", " + one[1] + ")", shire.flip(one[0], one[1]), one[2]);
                calls.due("wall(" + one[0] + ", " + one[1] + ") then", shire.wall(one[0], one[1]), 0);
                calls.due("wall() of the others then", shire.wall(one[2] / 8, one[2] % 8) & 1, 1);
            }
            // the WALL of a and d goes from c to h, that of d and g from f to h
            calls.due("flip(0, 3) of eight", Calls.told(EIGHT).flip(0, 3), 2 * 8 + 7);
            calls.due("flip(3, 6) of eight", Calls.told(EIGHT).flip(3, 6), 5 * 8 + 7);
        });
        edges.edge("NONE, doing nothing, if it can't be.", calls -> {
            FrothShire shire = Calls.told(FIVE);
            shire.gift(0, 1);
            shire.undo();
            shire.ring(0);
            int[][] none = {{0, 0}, {3, 4}, {0, 3}, {3, 0}};
            for (int[] one : none) {
                calls.dueRefused("flip(" + one[0] + ", " + one[1] + ")", shire, () -> shire.flip(one[0], one[1]));
            }
            for (int lord : Calls.noLords(5)) {
                calls.dueRefused("flip(0, " + lord + ")", shire, () -> shire.flip(0, lord));
                calls.dueRefused("flip(" + lord + ", 0)", shire, () -> shire.flip(lord, 0));
                calls.dueRefused("flip(" + lord + ", " + lord + ")", shire, () -> shire.flip(lord, lord));
            }
            shire.pop(0, 3);
            calls.dueRefused("flip(0, 3) when he is gone", shire, () -> shire.flip(0, 3));
            FrothShire three = Calls.told(THREE);
            calls.dueRefused("flip(0, 1) of three", three, () -> three.flip(0, 1));
        });
        edges.edge("(An ACT.)", calls -> {
            FrothShire shire = Calls.told(FIVE);
            calls.dueAct("flip(0, 1)", shire, () -> shire.flip(0, 1));
            calls.dueAct("flip(3, 4)", shire, () -> shire.flip(3, 4));
        });
    }

    private static void promise11(Edges edges) {
        edges.promise(11);
        edges.edge("A WALL is POPPED (the first one stays, the other one is gone): SIZE then;", calls -> {
            FrothShire shire = Calls.told(FIVE);
            calls.due("pop(0, 3)", shire.pop(0, 3), 12);
            calls.due("about(1) behind pop(0, 3)", shire.about(1), 23);
            calls.due("lord(0, 1) behind pop(0, 3)", shire.lord(0, 1), 12);
            shire = Calls.told(FIVE);
            calls.due("pop(3, 0)", shire.pop(3, 0), 12);
            calls.due("about(1) behind pop(3, 0)", shire.about(1), 30);
            calls.due("lord(3, 1) behind pop(3, 0)", shire.lord(3, 1), 12);
            calls.due("pop(0, 3) of the greatest",
                    Calls.told(FIVE.replace("a size 9", "a size 999")).pop(0, 3), 999);
            calls.due("pop(0, 3) of none", Calls.told(FIVE.replaceAll("size [0-9]", "size 0")).pop(0, 3), 0);
        });
        edges.edge("NONE, doing nothing, if it can't be.", calls -> {
            FrothShire shire = Calls.told(FIVE);
            shire.gift(0, 1);
            shire.undo();
            shire.ring(0);
            int[][] none = {{0, 0}, {3, 4}, {0, 1}, {1, 0}};
            for (int[] one : none) {
                calls.dueRefused("pop(" + one[0] + ", " + one[1] + ")", shire, () -> shire.pop(one[0], one[1]));
            }
            for (int lord : Calls.noLords(5)) {
                calls.dueRefused("pop(0, " + lord + ")", shire, () -> shire.pop(0, lord));
                calls.dueRefused("pop(" + lord + ", 0)", shire, () -> shire.pop(lord, 0));
                calls.dueRefused("pop(" + lord + ", " + lord + ")", shire, () -> shire.pop(lord, lord));
            }
            shire.pop(0, 3);
            calls.dueRefused("pop(0, 3) when he is gone", shire, () -> shire.pop(0, 3));
            calls.dueRefused("pop(3, 0) when he is gone", shire, () -> shire.pop(3, 0));
            shire.pop(0, 4);
            calls.dueRefused("pop(0, 1) of three who are left", shire, () -> shire.pop(0, 1));
        });
        edges.edge("(An ACT.)", calls -> {
            FrothShire shire = Calls.told(FIVE);
            calls.dueAct("pop(0, 3)", shire, () -> shire.pop(0, 3));
            calls.dueAct("pop(4, 2)", shire, () -> shire.pop(4, 2));
        });
    }

    private static void promise12(Edges edges) {
        edges.promise(12);
        edges.edge("A LORD is given SIZE (1 .. 99; 999 at most): SIZE then;", calls -> {
            FrothShire shire = Calls.told(EIGHT.replace("g size 7", "g size 899").replace("h size 8", "h size 901"));
            calls.due("gift(0, 1)", shire.gift(0, 1), 10);
            calls.due("gift(0, 99)", shire.gift(0, 99), 109);
            calls.due("lord(0, 1)", shire.lord(0, 1), 109);
            calls.due("gift(6, 99)", shire.gift(6, 99), 998);
            calls.due("gift(6, 1)", shire.gift(6, 1), 999);
            calls.due("gift(7, 99)", shire.gift(7, 99), 999);
            calls.due("lord(7, 1)", shire.lord(7, 1), 999);
            calls.due("lord(1, 1): nobody else", shire.lord(1, 1), 5);
            calls.due("gift() of no SIZE", Calls.told("lord a size 0;").gift(0, 5), 5);
        });
        edges.edge("(An ACT.)", calls -> {
            FrothShire shire = Calls.told(FIVE.replace("e size 4", "e size 998"));
            calls.dueAct("gift(0, 99)", shire, () -> shire.gift(0, 99));
            calls.dueAct("gift(4, 99)", shire, () -> shire.gift(4, 99));
        });
    }

    private static void promise12None(Edges edges) {
        edges.edge("NONE, doing nothing, if he is gone,", calls -> {
            FrothShire shire = Calls.told(FIVE);
            shire.pop(0, 3);
            calls.dueRefused("gift(3, 1) when he is taken in", shire, () -> shire.gift(3, 1));
            FrothShire zero = Calls.told(FIVE.replace("d size 3", "d size 0") + "grows 0;");
            zero.season();
            calls.dueRefused("gift(3, 1) when he has vanished", zero, () -> zero.gift(3, 1));
        });
        edges.edge("has 999,", calls -> {
            FrothShire shire = Calls.told(FIVE.replace("a size 9", "a size 999").replace("b size 5", "b size 998"));
            shire.gift(2, 1);
            shire.undo();
            calls.dueRefused("gift(0, 1)", shire, () -> shire.gift(0, 1));
            calls.dueRefused("gift(0, 99)", shire, () -> shire.gift(0, 99));
            calls.due("gift(1, 1)", shire.gift(1, 1), 999);
        });
        edges.edge("or one can't be.", calls -> {
            FrothShire shire = Calls.told(FIVE);
            shire.gift(2, 1);
            shire.undo();
            shire.ring(0);
            for (int more : Calls.outside(1, 99)) {
                calls.dueRefused("gift(0, " + more + ")", shire, () -> shire.gift(0, more));
            }
            for (int lord : Calls.noLords(5)) {
                calls.dueRefused("gift(" + lord + ", 1)", shire, () -> shire.gift(lord, 1));
            }
        });
    }

    /** An ACT of each sort, so that all of what is now changes. */
    private static void act(FrothShire shire, int sort) {
        switch (sort % 4) {
            case 0 -> shire.season();
            case 1 -> shire.flip(0, 1);
            case 2 -> shire.pop(0, 3);
            default -> shire.gift(1, 7);
        }
    }

    private static void promise13(Edges edges) {
        edges.promise(13);
        edges.edge("UNDO: true;", calls -> {
            FrothShire shire = Calls.told(FIVE + "straw 50;draw 3;");
            String[] moments = new String[6];
            for (int i = 0; i < 6; i++) {
                moments[i] = Calls.moment(shire);
                act(shire, i == 4 ? 3 : i == 5 ? 0 : i);
            }
            calls.due("about(6)", shire.about(6), 6);
            for (int i = 5; i >= 0; i--) {
                calls.due("undo() of " + i, shire.undo(), true);
                calls.due("all is as it was ahead of " + i, Calls.moment(shire).equals(moments[i]), true);
            }
        });
        edges.edge("false if there is none.", calls -> {
            calls.due("undo() of a new one", new FrothShire().undo(), false);
            FrothShire shire = Calls.told(FIVE);
            String before = Calls.all(shire);
            calls.due("undo() at first", shire.undo(), false);
            calls.due("all is as it was", Calls.all(shire).equals(before), true);
            shire.gift(0, 1);
            shire.undo();
            before = Calls.all(shire);
            calls.due("undo() when all is taken back", shire.undo(), false);
            calls.due("all is as it was, then", Calls.all(shire).equals(before), true);
            for (int i = 0; i < 50; i++) {
                shire.gift(0, 1);
            }
            for (int i = 0; i < 40; i++) {
                shire.undo();
            }
            before = Calls.all(shire);
            calls.due("undo() of the 41st", shire.undo(), false);
            calls.due("all is as it was, at the oldest", Calls.all(shire).equals(before), true);
            shire.image(0);
            shire.back(0);
            calls.due("undo() behind back()", shire.undo(), false);
        });
    }

    private static void promise14(Edges edges) {
        edges.promise(14);
        edges.edge("REDO: true;", calls -> {
            FrothShire shire = Calls.told(FIVE + "straw 50;draw 3;");
            String[] moments = new String[4];
            for (int i = 0; i < 4; i++) {
                act(shire, i);
                moments[i] = Calls.moment(shire);
            }
            for (int i = 0; i < 4; i++) {
                shire.undo();
            }
            for (int i = 0; i < 4; i++) {
                calls.due("redo() of " + i, shire.redo(), true);
                calls.due("all is as it was behind " + i, Calls.moment(shire).equals(moments[i]), true);
            }
        });
        edges.edge("false if there is none.", calls -> {
            calls.due("redo() of a new one", new FrothShire().redo(), false);
            FrothShire shire = Calls.told(FIVE);
            shire.gift(0, 1);
            String before = Calls.all(shire);
            calls.due("redo() when nothing is taken back", shire.redo(), false);
            calls.due("all is as it was", Calls.all(shire).equals(before), true);
            shire.undo();
            shire.redo();
            calls.due("redo() when all is done again", shire.redo(), false);
            calls.due("all is as it was, then", Calls.all(shire).equals(before), true);
            for (int sort = 0; sort < 4; sort++) {
                FrothShire other = Calls.told(FIVE);
                other.gift(2, 1);
                other.undo();
                act(other, sort);
                calls.due("redo() behind another ACT of sort " + sort, other.redo(), false);
            }
            // what is refused is no ACT
            shire.undo();
            shire.flip(3, 4);
            shire.pop(3, 4);
            shire.gift(0, 0);
            calls.due("redo() behind what was refused", shire.redo(), true);
        });
    }

    private static void promise44(Edges edges) {
        edges.promise(44);
        edges.edge("CORNERS, who is THERE, SIZES, the season, the SEED are kept in a BOX 0 .. 2:", calls -> {
            FrothShire shire = Calls.told(FIVE + "straw 50;draw 3;");
            String[] moments = new String[3];
            for (int box = 0; box < 3; box++) {
                act(shire, box);
                shire.image(box);
                moments[box] = Calls.moment(shire);
            }
            shire.gift(0, 9);
            shire.season();
            for (int box : new int[] {1, 0, 2, 0}) {
                shire.back(box);
                calls.due("all is as in BOX " + box, Calls.moment(shire).equals(moments[box]), true);
            }
            // another takes the place of what was in it, and the others stay
            shire.gift(0, 5);
            String then = Calls.moment(shire);
            shire.image(1);
            shire.back(2);
            calls.due("all is as in BOX 2 yet", Calls.moment(shire).equals(moments[2]), true);
            shire.back(1);
            calls.due("all is as in BOX 1 anew", Calls.moment(shire).equals(then), true);
        });
        edges.edge("the season;", calls -> {
            FrothShire shire = Calls.told(FIVE);
            calls.due("image(0) at first", shire.image(0), 0);
            shire.season();
            calls.due("image(2) later", shire.image(2), 1);
            calls.due("image(0) of an empty SHIRE", new FrothShire().image(0), 0);
            // it is no ACT, and what is taken back can be done again
            shire.undo();
            String before = Calls.all(shire);
            shire.image(1);
            calls.due("all is as it was", Calls.all(shire).equals(before), true);
            calls.due("redo()", shire.redo(), true);
        });
        edges.edge("NONE if there is none such.", calls -> {
            FrothShire shire = Calls.told(FIVE);
            shire.season();
            for (int box : Calls.outside(0, 2)) {
                calls.dueRefused("image(" + box + ")", shire, () -> shire.image(box));
            }
            for (int box = 0; box < 3; box++) {
                calls.due("back(" + box + "): nothing was kept", shire.back(box), -1);
            }
        });
    }

    private static void promise45(Edges edges) {
        edges.promise(45);
        edges.edge("All is as it was kept", calls -> {
            FrothShire shire = Calls.told(FIVE + "straw 100;draw 3;");
            shire.image(1);
            String kept = Calls.moment(shire);
            for (int i = 0; i < 3; i++) {
                shire.season();
                shire.gift(0, 9);
                shire.pop(0, 3);
                shire.back(1);
                calls.due("all is as it was kept, " + i, Calls.moment(shire).equals(kept), true);
            }
            // what is gone on from it goes as it went
            calls.due("will(0, 9, 1)", shire.will(0, 9, 1), Calls.told(FIVE + "straw 100;draw 3;").will(0, 9, 1));
            // what is SEEN, the TIME and what lies there were not kept
            shire.seen(0, 8, true);
            shire.later(4);
            shire.ring(0);
            shire.back(1);
            calls.due("about(8)", shire.about(8), 1);
            calls.due("about(9)", shire.about(9), 4);
            calls.due("about(12)", shire.about(12), 4);
            calls.due("fits(4)", shire.fits(4), 0);
        });
        edges.edge("(no ACTS are kept then):", calls -> {
            FrothShire shire = Calls.told(FIVE);
            shire.gift(0, 1);
            shire.gift(0, 2);
            shire.image(0);
            shire.gift(0, 4);
            shire.undo();
            shire.back(0);
            calls.due("about(6)", shire.about(6), 0);
            calls.due("about(7)", shire.about(7), 0);
            calls.due("undo()", shire.undo(), false);
            calls.due("redo()", shire.redo(), false);
            calls.due("lord(0, 1)", shire.lord(0, 1), 12);
            // ACTS from then on are kept
            shire.gift(0, 8);
            calls.due("undo() of an ACT", shire.undo(), true);
            calls.due("lord(0, 1) then", shire.lord(0, 1), 12);
            calls.due("undo() of no more", shire.undo(), false);
        });
    }

    private static void promise45None(Edges edges) {
        edges.edge("the season;", calls -> {
            FrothShire shire = Calls.told(FIVE);
            shire.image(0);
            shire.season();
            shire.season();
            shire.image(2);
            shire.season();
            calls.due("back(2)", shire.back(2), 2);
            calls.due("back(0)", shire.back(0), 0);
            calls.due("back(2) again", shire.back(2), 2);
        });
        edges.edge("NONE, doing nothing, if nothing was.", calls -> {
            FrothShire shire = Calls.told(FIVE);
            shire.image(1);
            shire.season();
            shire.gift(0, 1);
            shire.undo();
            shire.ring(0);
            calls.dueRefused("back(0)", shire, () -> shire.back(0));
            calls.dueRefused("back(2)", shire, () -> shire.back(2));
            for (int box : Calls.outside(0, 2)) {
                calls.dueRefused("back(" + box + ")", shire, () -> shire.back(box));
            }
            calls.dueRefused("back(33)", shire, () -> shire.back(33));
            Calls.tell(shire, FIVE);
            calls.dueRefused("back(1) behind shire()", shire, () -> shire.back(1));
        });
    }
}
