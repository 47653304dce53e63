/** Promises 1 to 5: a new object, the TAPE, texts and their FAULTS. */
final class TapePromises {
    private static final String THREE = "lord a size 9;lord b size 5;lord c size 7;";
    private static final String FIVE = THREE + "lord d size 3 at a b c;lord e size 4 at a b c;";
    private static final int BLANKS = 0x20202020;

    private TapePromises() {
    }

    static void all(Edges edges) {
        promise1(edges);
        promise2(edges);
        promise3(edges);
        promise4(edges);
        promise4Emptied(edges);
        promise4Refused(edges);
        promise5(edges);
    }

    private static int feedBlanks(FrothShire shire) {
        return shire.feed(BLANKS, BLANKS, BLANKS, BLANKS, BLANKS);
    }

    private static void promise1(Edges edges) {
        edges.promise(1);
        edges.edge("An empty SHIRE.", calls -> {
            FrothShire shire = new FrothShire();
            for (int what = 0; what < 14; what++) {
                calls.due("about(" + what + ")", shire.about(what), 0);
            }
            calls.due("lord(0, 0)", shire.lord(0, 0), -100);
            calls.due("corner(0, 0)", shire.corner(0, 0), -1);
            calls.due("wall(0, 1)", shire.wall(0, 1), -1);
            calls.due("fault(0)", shire.fault(0), 0);
            calls.due("fault(1)", shire.fault(1), -1);
            calls.due("king()", shire.king(), -1);
            calls.due("lies(0)", shire.lies(0), -2);
            calls.due("undo()", shire.undo(), false);
            calls.due("redo()", shire.redo(), false);
            for (int box = 0; box < 3; box++) {
                calls.due("back(" + box + ")", shire.back(box), -1);
            }
            calls.due("season()", shire.season(), 0);
            calls.due("undo() of it", shire.undo(), true);
            calls.due("all is as of an empty text", Calls.moment(shire).equals(Calls.moment(Calls.told(""))), true);
        });
    }

    private static void promise2(Edges edges) {
        edges.promise(2);
        edges.edge("Twenty bytes come behind those on the TAPE,", calls -> {
            FrothShire shire = new FrothShire();
            Calls.feed(shire, "draw 12");
            // behind the seven, not behind the twenty that there were
            shire.feed(0x33202020, BLANKS, BLANKS, BLANKS, 0x2020203b);
            calls.due("about(10)", shire.about(10), 27);
            calls.due("shire()", shire.shire(), 0);
            calls.due("about(5)", shire.about(5), 123);
        });
        edges.edge("of each number the highest first:", calls -> {
            for (int place = 0; place < 20; place++) {
                int[] five = {BLANKS, BLANKS, BLANKS, BLANKS, BLANKS};
                five[place / 4] ^= 0x80 << 24 - place % 4 * 8;
                FrothShire shire = new FrothShire();
                shire.feed(five[0], five[1], five[2], five[3], five[4]);
                calls.due("shire() of byte " + place, shire.shire(), -1);
                calls.due("fault(0) of byte " + place, shire.fault(0), 1);
                calls.due("fault(1) of byte " + place, shire.fault(1), place);
            }
        });
        edges.edge("how many there are;", calls -> {
            FrothShire shire = new FrothShire();
            calls.due("feed() at first", feedBlanks(shire), 20);
            calls.due("feed() again", feedBlanks(shire), 40);
            shire.end(1);
            calls.due("feed() behind end(1)", feedBlanks(shire), 21);
            shire.shire();
            calls.due("feed() behind shire()", feedBlanks(shire), 20);
        });
        edges.edge("NONE, and nothing comes, if there would be more than 1,600.", calls -> {
            FrothShire shire = new FrothShire();
            for (int i = 1; i <= 80; i++) {
                calls.due("feed() number " + i, feedBlanks(shire), 20 * i);
            }
            for (int length = 1600; length > 1580; length--) {
                shire.end(length);
                calls.dueRefused("feed() of " + length, shire, () -> shire.feed(-1, -1, -1, -1, -1));
            }
            shire.end(1580);
            calls.due("feed() of 1580", feedBlanks(shire), 1600);
            calls.due("shire(): nothing came", shire.shire(), 0);
        });
    }

    private static void promise3(Edges edges) {
        edges.promise(3);
        edges.edge("The TAPE has its first n bytes: n;", calls -> {
            FrothShire shire = new FrothShire();
            calls.due("end(0) of nothing", shire.end(0), 0);
            shire.feed(0x64726177, 0x20313233, 0x3b3b3b3b, -1, -1);
            for (int n : new int[] {20, 19, 9}) {
                calls.due("end(" + n + ")", shire.end(n), n);
                calls.due("about(10) behind end(" + n + ")", shire.about(10), n);
            }
            calls.due("shire()", shire.shire(), 0);
            calls.due("about(5)", shire.about(5), 123);
            Calls.feed(shire, "draw 5;");
            calls.due("end(0)", shire.end(0), 0);
            calls.due("about(10) behind end(0)", shire.about(10), 0);
            calls.due("shire() of nothing", shire.shire(), 0);
            calls.due("about(5) of nothing", shire.about(5), 0);
            // what stood behind the end is no part of a TOKEN
            shire.feed(0x73747261, 0x77203578, 0x3b3b3b3b, -1, -1);
            shire.end(7);
            calls.due("shire() of a part", shire.shire(), -1);
            calls.due("fault(0) of a part", shire.fault(0), 2);
            calls.due("fault(1) of a part", shire.fault(1), 7);
        });
        edges.edge("NONE, doing nothing, if it has not so many,", calls -> {
            FrothShire shire = new FrothShire();
            calls.dueRefused("end(1) of nothing", shire, () -> shire.end(1));
            feedBlanks(shire);
            for (int n : new int[] {21, 40, 1600, 1601, Integer.MAX_VALUE}) {
                calls.dueRefused("end(" + n + ") of twenty", shire, () -> shire.end(n));
            }
            shire.end(7);
            for (int n : new int[] {8, 20}) {
                calls.dueRefused("end(" + n + ") of seven", shire, () -> shire.end(n));
            }
            for (int i = 0; i < 80; i++) {
                feedBlanks(shire);
            }
            shire.end(1580);
            feedBlanks(shire);
            calls.dueRefused("end(1601) of 1,600", shire, () -> shire.end(1601));
        });
        edges.edge("or n is below 0.", calls -> {
            FrothShire shire = new FrothShire();
            feedBlanks(shire);
            for (int n : new int[] {-1, -20, Integer.MIN_VALUE}) {
                calls.dueRefused("end(" + n + ")", shire, () -> shire.end(n));
            }
        });
    }

    /** One of which much was asked and done. */
    private static FrothShire used() {
        FrothShire shire = Calls.told(FIVE + "flip a b;flip d e;".repeat(6) + "straw 50;draw 3;grows sides-3;");
        shire.season();
        shire.flip(0, 1);
        shire.image(0);
        shire.image(2);
        shire.gift(0, 9);
        shire.undo();
        shire.seen(0, 8, true);
        shire.fits(0);
        shire.banners();
        return shire;
    }

    private static void promise4(Edges edges) {
        edges.promise(4);
        edges.edge("The TAPE (empty then) is the SHIRE", calls -> {
            FrothShire shire = new FrothShire();
            calls.due("shire()", Calls.tell(shire, FIVE), 5);
            calls.due("about(10)", shire.about(10), 0);
            calls.due("end(1)", shire.end(1), -1);
            calls.due("shire() of nothing", shire.shire(), 0);
            calls.due("about(0) of nothing", shire.about(0), 0);
            calls.due("shire() of a FAULT", Calls.tell(shire, "?"), -1);
            calls.due("about(10) behind a FAULT", shire.about(10), 0);
        });
        edges.edge("(all as told,", calls -> {
            for (String text : new String[] {"", THREE, FIVE + "flip a b;", FIVE + "straw 7;draw 8;grows near;"}) {
                FrothShire shire = used();
                Calls.tell(shire, text);
                calls.due("all is as of a new one: " + text,
                        Calls.all(shire).equals(Calls.all(Calls.told(text))), true);
                calls.due("fits(0) is as of a new one: " + text, shire.fits(0), Calls.told(text).fits(0));
            }
            // nothing of what was told before, rightly or with a FAULT, is told yet
            String full = FIVE + "flip a b;flip d e;".repeat(6) + "straw 1;draw 2;grows 3;";
            FrothShire shire = new FrothShire();
            for (int i = 0; i < 4; i++) {
                calls.due("shire() of all, " + i, Calls.tell(shire, full), 5);
                calls.due("all is as of all, " + i, Calls.all(shire).equals(Calls.all(Calls.told(full))), true);
                calls.due("shire() of a FAULT, " + i, Calls.tell(shire, i % 2 == 0 ? full + "?" : "?"), -1);
                calls.due("shire() of three, " + i, Calls.tell(shire, THREE), 3);
                calls.due("all is as of three, " + i, Calls.all(shire).equals(Calls.all(Calls.told(THREE))), true);
            }
            // nor is a CORNER of it there yet
            Calls.tell(shire, FIVE + "lord f size 6 at a b d;straw;");
            String other = FIVE.replace("e size 4 at a b c", "e size 4 at a b d") + "lord f size 6 at b c e;";
            calls.due("shire() of a CORNER of before", Calls.tell(shire, other), -1);
            calls.due("fault(0) of a CORNER of before", shire.fault(0), 3);
        });
    }

    private static void promise4Emptied(Edges edges) {
        edges.edge("season 0,", calls -> {
            FrothShire shire = used();
            calls.due("about(4) ahead", shire.about(4), 1);
            Calls.tell(shire, FIVE + "grows season;");
            calls.due("about(4)", shire.about(4), 0);
            calls.due("lord(0, 4)", shire.lord(0, 4), 0);
        });
        edges.edge("no ACTS are kept,", calls -> {
            FrothShire shire = used();
            calls.due("about(6) ahead", shire.about(6), 2);
            calls.due("about(7) ahead", shire.about(7), 1);
            Calls.tell(shire, THREE);
            calls.due("about(6)", shire.about(6), 0);
            calls.due("about(7)", shire.about(7), 0);
            calls.due("undo()", shire.undo(), false);
            calls.due("redo()", shire.redo(), false);
            shire.gift(0, 1);
            calls.due("undo() of an ACT", shire.undo(), true);
            calls.due("all is as told", Calls.moment(shire).equals(Calls.moment(Calls.told(THREE))), true);
        });
        edges.edge("nothing is SEEN,", calls -> {
            FrothShire shire = used();
            calls.due("about(8) ahead", shire.about(8), 1);
            calls.due("fits(0) ahead", shire.fits(0), 0);
            Calls.tell(shire, THREE);
            calls.due("about(8)", shire.about(8), 0);
            calls.due("fits(0)", shire.fits(0), 31);
            calls.due("untell(0)", shire.untell(0), false);
            calls.due("seen()", shire.seen(0, 2, true), 0);
            calls.due("untell(0) of that", shire.untell(0), true);
        });
        edges.edge("nothing lies there,", calls -> {
            FrothShire shire = used();
            calls.due("about(12) ahead", shire.about(12), 5);
            Calls.tell(shire, THREE);
            calls.dueLying("shire()", shire);
        });
        edges.edge("BOXES are empty then;", calls -> {
            FrothShire shire = used();
            calls.due("back(2) ahead", shire.back(2), 1);
            Calls.tell(shire, THREE);
            for (int box = 0; box < 3; box++) {
                calls.due("back(" + box + ")", shire.back(box), -1);
            }
            calls.due("about(0)", shire.about(0), 3);
        });
        edges.edge("the TIME stays):", calls -> {
            FrothShire shire = new FrothShire();
            shire.later(7);
            Calls.tell(shire, FIVE);
            calls.due("about(9)", shire.about(9), 7);
            shire.seen(0, 8, true);
            calls.due("fits(6)", shire.fits(6), 31);
            calls.due("fits(7)", shire.fits(7), 0);
            Calls.tell(shire, "?");
            calls.due("about(9) behind a FAULT", shire.about(9), 7);
        });
        edges.edge("how many LORDS;", calls -> {
            String eight = FIVE + "lord f size 1 at a b d;lord g size 1 at a b f;lord h size 1 at a b g;";
            String[] lines = eight.split("(?<=;)");
            String text = "";
            for (int lords = 0; lords <= 8; lords++) {
                calls.due("shire() of " + lords, Calls.tell(new FrothShire(), text), lords);
                text += lords < 8 ? lines[lords] : "";
            }
        });
    }

    private static void promise4Refused(Edges edges) {
        edges.edge("NONE: a FAULT (all stays).", calls -> {
            for (String text : new String[] {"?", "straw", "lord x size 1;lord x size 2;", "straw 9;draw 9;grows 9;?",
                FIVE + "flip a b;lord f size 1 at a b c;"}) {
                FrothShire shire = used();
                String before = Calls.all(shire);
                calls.due("shire() of " + text, Calls.tell(shire, text), -1);
                calls.due("all stays behind " + text, Calls.all(shire).equals(before), true);
                calls.due("fits(0) behind " + text, shire.fits(0), 0);
                calls.due("will(1, 9, 1) behind " + text, shire.will(1, 9, 1), used().will(1, 9, 1));
                calls.due("redo() behind " + text, shire.redo(), true);
                calls.due("undo() behind " + text, shire.undo(), true);
                calls.due("back(1) behind " + text, shire.back(1), -1);
                calls.due("back(2) behind " + text, shire.back(2), 1);
            }
        });
    }

    private static void promise5(Edges edges) {
        edges.promise(5);
        String[] texts = {"straw 1;", "?", "straw", "lord a size 1;lord a", "straw 101;", "flip a"};
        int[] places = {-1, 0, 5, 19, 6, 5};
        edges.edge("Of the latest shire() what 0: its FAULT (0),", calls -> {
            FrothShire shire = new FrothShire();
            calls.due("fault(0) when there was none", shire.fault(0), 0);
            for (int fault = 0; fault < 6; fault++) {
                Calls.tell(shire, texts[fault]);
                calls.due("fault(0) of " + texts[fault], shire.fault(0), fault);
            }
            shire.shire();
            calls.due("fault(0) of nothing", shire.fault(0), 0);
        });
        edges.edge("1: its place (NONE).", calls -> {
            FrothShire shire = new FrothShire();
            calls.due("fault(1) when there was none", shire.fault(1), -1);
            for (int fault = 0; fault < 6; fault++) {
                Calls.tell(shire, texts[fault]);
                calls.due("fault(1) of " + texts[fault], shire.fault(1), places[fault]);
                // neither what is fed nor an ACT changes it
                feedBlanks(shire);
                shire.end(0);
                shire.season();
                calls.due("fault(1) of " + texts[fault] + " yet", shire.fault(1), places[fault]);
            }
            shire.shire();
            calls.due("fault(1) of nothing", shire.fault(1), -1);
        });
        edges.edge("NONE for another what.", calls -> {
            FrothShire shire = new FrothShire();
            Calls.tell(shire, "straw");
            for (int what : Calls.outside(0, 1)) {
                calls.due("fault(" + what + ")", shire.fault(what), -1);
            }
        });
    }
}
