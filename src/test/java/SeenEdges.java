/** Terms, ==== 4: what is SEEN; and promises 38 to 43. */
final class SeenEdges {
    // d, of SIZE s at first, has three SIDES behind fewer than s SEASONS (than one, if s is 0), then is gone
    private static final String FOUR =
            "lord a size 999;lord b size 999;lord c size 999;lord d size 500 at a b c;";

    private SeenEdges() {
    }

    static void all(Edges edges) {
        edges.open("==== 4.", "## Promise 1:");
        terms(edges);
        fits(edges);
        promise38(edges);
        promise39(edges);
        promise40(edges);
        promise41(edges);
        promise42(edges);
        promise43(edges);
    }

    private static void terms(Edges edges) {
        edges.edge("SEEN, 30 at most,", calls -> {
            FrothShire shire = Calls.told(FOUR);
            for (int i = 0; i < 30; i++) {
                calls.due("seen() number " + i, shire.seen(0, 3, true), i);
            }
            calls.due("seen() number 30", shire.seen(0, 3, true), -1);
            calls.due("about(8)", shire.about(8), 30);
        });
        edges.edge("is TOLD at a TIME (0 at first, goes on),", calls -> {
            FrothShire shire = Calls.told(FOUR);
            calls.due("about(9) at first", shire.about(9), 0);
            shire.seen(5, 3, true);
            calls.due("fits(0)", shire.fits(0), 25);
            shire.later(1);
            calls.due("about(9)", shire.about(9), 1);
            calls.due("later(0) goes nowhere", shire.later(0), 1);
        });
        edges.edge("UNTOLD at a later one or the same,", calls -> {
            FrothShire shire = Calls.told(FOUR);
            shire.seen(5, 3, true);
            calls.due("untell(0) at the same", shire.untell(0), true);
            calls.due("fits(0)", shire.fits(0), 31);
            shire.seen(5, 3, true);
            shire.later(1);
            calls.due("untell(1) later", shire.untell(1), true);
            calls.due("fits(0)", shire.fits(0), 25);
            calls.due("fits(1)", shire.fits(1), 31);
        });
        edges.edge("of the shire as it was told (no straws, nothing done),", calls -> {
            FrothShire shire = Calls.told(FOUR);
            shire.season();
            shire.gift(3, 9);
            shire.pop(3, 0);
            shire.seen(5, 3, true);
            calls.due("fits(0): nothing done", shire.fits(0), 25);
            // a straw would FLIP a b at once, so that e had four SIDES
            shire = Calls.told(FOUR + "lord e size 5 at a b c;grows 0;straw 100;draw 817;");
            shire.season();
            calls.due("lord(4, 2)", shire.lord(4, 2), 4);
            shire.seen(1, 4, true);
            calls.due("fits(0): no straws", shire.fits(0), 0);
            // as it was told last
            Calls.tell(shire, FOUR + "lord e size 5 at a b c;flip a b;grows 0;");
            shire.seen(0, 4, true);
            calls.due("fits(0) of another SHIRE", shire.fits(0), 31);
            Calls.tell(shire, "lord a size 1;");
            shire.seen(0, 1, false);
            calls.due("fits(0) of one alone", shire.fits(0), 31);
        });
        edges.edge("but for the SIZE of the last LORD at first, which is not known:", calls -> {
            for (int size : new int[] {0, 1, 30, 31, 999}) {
                FrothShire shire = Calls.told(FOUR.replace("500", String.valueOf(size)));
                shire.seen(5, 3, true);
                calls.due("fits(0) of SIZE " + size, shire.fits(0), 25);
            }
        });
        edges.edge("that behind so many SEASONS (0 .. 12) he had so many SIDES at least (0, if he is gone), or had not.", calls -> {
            int[][] due = {{0, 3, 31, 0}, {0, 4, 0, 31}, {1, 3, 29, 2}, {1, 1, 29, 2}, {1, 0, 31, 0}, {12, 3, 18, 13},
                {12, 4, 0, 31}, {12, 0, 31, 0}};
            for (int[] one : due) {
                FrothShire shire = Calls.told(FOUR);
                shire.seen(one[0], one[1], true);
                calls.due("fits(0) behind " + one[0] + ", " + one[1] + " at least", shire.fits(0), one[2]);
                shire = Calls.told(FOUR);
                shire.seen(one[0], one[1], false);
                calls.due("fits(0) behind " + one[0] + ", not " + one[1] + " at least", shire.fits(0), one[3]);
            }
        });
    }

    private static void fits(Edges edges) {
        edges.edge("As known at k that counts that was TOLD at k or before, not UNTOLD at k or before.", calls -> {
            FrothShire shire = Calls.told(FOUR);
            shire.later(10);
            shire.seen(5, 3, true);
            shire.later(10);
            shire.untell(0);
            int[] at = {Integer.MIN_VALUE, -1, 0, 9, 10, 11, 19, 20, 21, Integer.MAX_VALUE};
            int[] due = {31, 31, 31, 31, 25, 25, 25, 31, 31, 31};
            for (int i = 0; i < at.length; i++) {
                calls.due("fits(" + at[i] + ")", shire.fits(at[i]), due[i]);
            }
        });
        edges.edge("FITS: SIZES (0 .. 30) by which all that counts is so.", calls -> {
            FrothShire shire = Calls.told(FOUR);
            calls.due("fits(0)", shire.fits(0), 31);
            calls.due("sure(0, 0)", shire.sure(0, 0), 0);
            calls.due("sure(1, 0)", shire.sure(1, 0), 30);
            shire.seen(3, 1, true);
            shire.seen(6, 1, false);
            calls.due("fits(0): 4 .. 6", shire.fits(0), 3);
            shire.seen(6, 1, true);
            calls.due("fits(0): none", shire.fits(0), 0);
        });
        edges.edge("ASK: the number of SEASONS (0 .. 12) behind which to know how many SIDES he had would leave the fewest of"
                + " these at the most; of like ones the least.", calls -> {
            FrothShire shire = Calls.told(FOUR);
            calls.due("ask(0, 0): the last", shire.ask(0, 0), 12);
            calls.due("ask(1, 0)", shire.ask(1, 0), 18);
            shire.seen(4, 3, true);
            shire.seen(8, 3, false);
            calls.due("ask(0, 0) of 5 .. 8", shire.ask(0, 0), 6);
            calls.due("ask(1, 0) of 5 .. 8", shire.ask(1, 0), 2);
            shire.seen(7, 3, false);
            calls.due("ask(0, 0) of 5 .. 7: 5 or 6", shire.ask(0, 0), 5);
            calls.due("ask(1, 0) of 5 .. 7", shire.ask(1, 0), 2);
            // 0 and 1 can't be told from one another, 2 can, at once
            shire = Calls.told(FOUR);
            shire.seen(2, 3, false);
            calls.due("ask(0, 0) of 0 .. 2", shire.ask(0, 0), 1);
            calls.due("ask(1, 0) of 0 .. 2", shire.ask(1, 0), 2);
            shire.seen(1, 3, true);
            calls.due("ask(0, 0) of 2", shire.ask(0, 0), 0);
            calls.due("ask(1, 0) of 2", shire.ask(1, 0), 1);
            shire = Calls.told("lord a size 1;");
            calls.due("ask(0, 0): nothing tells, so the first", shire.ask(0, 0), 0);
            calls.due("ask(1, 0): nothing tells", shire.ask(1, 0), 31);
        });
        edges.edge("The constants: `NONE = -1`: There is none.", calls -> calls.due("NONE", FrothShire.NONE, -1));
    }

    private static void promise38(Edges edges) {
        edges.promise(38);
        edges.edge("A SEEN (SEASONS 0 .. 12, SIDES 0 .. 8): its number;", calls -> {
            FrothShire shire = Calls.told(FOUR);
            calls.due("seen(0, 0, true)", shire.seen(0, 0, true), 0);
            calls.due("seen(12, 8, false)", shire.seen(12, 8, false), 1);
            calls.due("seen(12, 0, true)", shire.seen(12, 0, true), 2);
            calls.due("seen(0, 8, false)", shire.seen(0, 8, false), 3);
            calls.due("fits(0)", shire.fits(0), 31);
            shire.untell(3);
            calls.due("seen() behind one that is UNTOLD", shire.seen(0, 0, true), 4);
        });
        edges.edge("NONE, doing nothing, if one can't be,", calls -> {
            FrothShire shire = Calls.told(FOUR);
            String before = Calls.all(shire);
            for (int seasons : Calls.outside(0, 12)) {
                calls.due("seen(" + seasons + ", 0, true)", shire.seen(seasons, 0, true), -1);
            }
            for (int sides : Calls.outside(0, 8)) {
                calls.due("seen(0, " + sides + ", false)", shire.seen(0, sides, false), -1);
            }
            calls.due("all is as it was", Calls.all(shire).equals(before), true);
            calls.due("fits(0)", shire.fits(0), 31);
        });
        edges.edge("there are 30,", calls -> {
            FrothShire shire = Calls.told(FOUR);
            for (int i = 0; i < 30; i++) {
                shire.seen(0, 0, true);
            }
            calls.due("seen(0, 8, true) when there are 30", shire.seen(0, 8, true), -1);
            calls.due("fits(0)", shire.fits(0), 31);
            calls.due("about(8)", shire.about(8), 30);
            shire.untell(0);
            calls.due("seen(0, 8, true) when one is UNTOLD", shire.seen(0, 8, true), -1);
            Calls.tell(shire, FOUR);
            calls.due("seen(0, 8, true) of a new SHIRE", shire.seen(0, 8, true), 0);
        });
        edges.edge("or no LORDS.", calls -> {
            calls.due("seen() of a new one", new FrothShire().seen(0, 0, true), -1);
            FrothShire shire = Calls.told("straw 5;");
            calls.due("seen() of no LORDS", shire.seen(0, 0, true), -1);
            calls.due("about(8) of no LORDS", shire.about(8), 0);
            calls.due("seen() of one", Calls.told("lord a size 1;").seen(0, 0, true), 0);
        });
    }

    private static void promise39(Edges edges) {
        edges.promise(39);
        edges.edge("It is UNTOLD: true;", calls -> {
            FrothShire shire = Calls.told(FOUR);
            shire.seen(0, 8, true);
            shire.seen(5, 3, true);
            calls.due("fits(0)", shire.fits(0), 0);
            calls.due("untell(0)", shire.untell(0), true);
            calls.due("fits(0)", shire.fits(0), 25);
            calls.due("untell(1)", shire.untell(1), true);
            calls.due("fits(0)", shire.fits(0), 31);
        });
        edges.edge("false if it is so already,", calls -> {
            FrothShire shire = Calls.told(FOUR);
            shire.seen(5, 3, true);
            shire.later(3);
            calls.due("untell(0)", shire.untell(0), true);
            calls.due("untell(0) again", shire.untell(0), false);
            shire.later(3);
            calls.due("untell(0) later", shire.untell(0), false);
            // it stays UNTOLD at 3
            calls.due("fits(2)", shire.fits(2), 25);
            calls.due("fits(3)", shire.fits(3), 31);
        });
        edges.edge("or there is none such.", calls -> {
            FrothShire shire = Calls.told(FOUR);
            calls.due("untell(0) when nothing is SEEN", shire.untell(0), false);
            shire.seen(0, 8, true);
            for (int seen : Calls.outside(0, 0)) {
                calls.due("untell(" + seen + ")", shire.untell(seen), false);
            }
            calls.due("fits(0)", shire.fits(0), 0);
            for (int i = 1; i < 30; i++) {
                shire.seen(0, 0, true);
            }
            calls.due("untell(30)", shire.untell(30), false);
            calls.due("untell(29)", shire.untell(29), true);
        });
    }

    private static void promise40(Edges edges) {
        edges.promise(40);
        edges.edge("So much later (0 .. 1000): the TIME;", calls -> {
            FrothShire shire = new FrothShire();
            calls.due("later(0)", shire.later(0), 0);
            calls.due("later(1)", shire.later(1), 1);
            calls.due("later(1000)", shire.later(1000), 1001);
        });
        edges.edge("NONE, doing nothing, for another number,", calls -> {
            FrothShire shire = new FrothShire();
            shire.later(5);
            for (int by : Calls.outside(0, 1000)) {
                calls.due("later(" + by + ")", shire.later(by), -1);
            }
            calls.due("about(9)", shire.about(9), 5);
        });
        edges.edge("or if it would be above 100,000.", calls -> {
            FrothShire shire = new FrothShire();
            for (int i = 0; i < 99; i++) {
                shire.later(1000);
            }
            calls.due("later(999)", shire.later(999), 99999);
            calls.due("later(2)", shire.later(2), -1);
            calls.due("about(9)", shire.about(9), 99999);
            calls.due("later(1)", shire.later(1), 100000);
            calls.due("later(1) again", shire.later(1), -1);
            calls.due("later(1000)", shire.later(1000), -1);
            calls.due("later(0)", shire.later(0), 100000);
            Calls.tell(shire, FOUR);
            shire.seen(5, 3, true);
            calls.due("fits(99999)", shire.fits(99999), 31);
            calls.due("fits(100000)", shire.fits(100000), 25);
        });
    }

    private static void promise41(Edges edges) {
        edges.promise(41);
        edges.edge("FITS: how many (0 without LORDS).", calls -> {
            calls.due("fits(0) of a new one", new FrothShire().fits(0), 0);
            calls.due("fits(0) of no LORDS", Calls.told("straw 5;").fits(0), 0);
            calls.due("fits(0) of one", Calls.told("lord a size 1;").fits(0), 31);
            FrothShire shire = Calls.told(FOUR);
            shire.fits(0);
            shire.shire();
            calls.due("fits(0) when there are none any more", shire.fits(0), 0);
        });
    }

    private static void promise42(Edges edges) {
        edges.promise(42);
        edges.edge("The least of FITS (what 0), the greatest (1);", calls -> {
            FrothShire shire = Calls.told(FOUR);
            shire.later(1);
            shire.seen(3, 3, true);
            shire.seen(7, 3, false);
            calls.due("sure(0, 0)", shire.sure(0, 0), 0);
            calls.due("sure(1, 0)", shire.sure(1, 0), 30);
            calls.due("sure(0, 1)", shire.sure(0, 1), 4);
            calls.due("sure(1, 1)", shire.sure(1, 1), 7);
            shire.seen(6, 3, true);
            calls.due("sure(0, 1) of 7 alone", shire.sure(0, 1), 7);
            calls.due("sure(1, 1) of 7 alone", shire.sure(1, 1), 7);
            // of four SIDES he loses one at once, if he has no SIZE at first, and keeps them else
            shire = Calls.told(FOUR + "lord e size 1 at a b c;flip a b;");
            shire.seen(1, 4, false);
            calls.due("sure(0, 0) of 0 alone", shire.sure(0, 0), 0);
            calls.due("sure(1, 0) of 0 alone", shire.sure(1, 0), 0);
        });
        edges.edge("NONE if none FITS,", calls -> {
            FrothShire shire = Calls.told(FOUR);
            shire.seen(0, 8, true);
            for (int what = 0; what < 2; what++) {
                calls.due("sure(" + what + ", 0)", shire.sure(what, 0), -1);
                calls.due("sure(" + what + ", 0) of no LORDS", new FrothShire().sure(what, 0), -1);
            }
            calls.due("sure(0, -1)", shire.sure(0, -1), 0);
        });
        edges.edge("or for another what.", calls -> {
            FrothShire shire = Calls.told(FOUR);
            for (int what : Calls.outside(0, 1)) {
                calls.due("sure(" + what + ", 0)", shire.sure(what, 0), -1);
            }
        });
    }

    private static void promise43(Edges edges) {
        edges.promise(43);
        edges.edge("ASK what 0: the number of SEASONS, 1: how many are left at the most;", calls -> {
            FrothShire shire = Calls.told(FOUR);
            shire.later(1);
            shire.seen(4, 3, true);
            shire.seen(8, 3, false);
            calls.due("ask(0, 1)", shire.ask(0, 1), 6);
            calls.due("ask(1, 1)", shire.ask(1, 1), 2);
            calls.due("ask(0, 0)", shire.ask(0, 0), 12);
            calls.due("ask(1, 0)", shire.ask(1, 0), 18);
        });
        edges.edge("NONE if none FITS,", calls -> {
            FrothShire shire = Calls.told(FOUR);
            shire.seen(0, 8, true);
            for (int what = 0; what < 2; what++) {
                calls.due("ask(" + what + ", 0)", shire.ask(what, 0), -1);
                calls.due("ask(" + what + ", 0) of no LORDS", new FrothShire().ask(what, 0), -1);
            }
            calls.due("ask(1, -1)", shire.ask(1, -1), 18);
        });
        edges.edge("or for another what.", calls -> {
            FrothShire shire = Calls.told(FOUR);
            for (int what : Calls.outside(0, 1)) {
                calls.due("ask(" + what + ", 0)", shire.ask(what, 0), -1);
            }
        });
    }
}
