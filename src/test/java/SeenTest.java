/** Promises 38 to 43: what is SEEN, and the SIZES that it leaves. */
public final class SeenTest {
    // d, of SIZE s at first, has three SIDES behind fewer than s SEASONS (one, if s is 0), then is gone
    private static final String FOUR =
            "lord a size 999;lord b size 999;lord c size 999;lord d size 500 at a b c;straw 100;";
    private static final Calls CALLS = new Calls("SeenTest");

    public static void main(String[] args) {
        promise38();
        promise39();
        promise40();
        promise41();
        promise42();
        promise42Nothing();
        promise43();
        asItWasTold();
        CALLS.end();
    }

    private static void promise38() {
        FrothShire shire = new FrothShire();
        CALLS.due("seen() of no LORDS", shire.seen(0, 0, true), -1);
        shire = Calls.told(FOUR);
        CALLS.due("seen(13, 0, true)", shire.seen(13, 0, true), -1);
        CALLS.due("seen(-1, 0, true)", shire.seen(-1, 0, true), -1);
        CALLS.due("seen(0, 9, true)", shire.seen(0, 9, true), -1);
        CALLS.due("seen(0, -1, true)", shire.seen(0, -1, true), -1);
        CALLS.due("about(8)", shire.about(8), 0);
        for (int i = 0; i < 30; i++) {
            CALLS.due("seen() number " + i, shire.seen(i % 13, i % 9, i % 2 == 0), i);
            CALLS.due("about(8) behind number " + i, shire.about(8), i + 1);
        }
        CALLS.due("seen() number 30", shire.seen(0, 0, true), -1);
        shire.untell(3);
        CALLS.due("seen() number 30, one UNTOLD", shire.seen(0, 0, true), -1);
        CALLS.due("about(8)", shire.about(8), 30);
        CALLS.due("about(6): no ACT", shire.about(6), 0);
    }

    private static void promise39() {
        FrothShire shire = Calls.told(FOUR);
        CALLS.due("untell(0) of nothing", shire.untell(0), false);
        CALLS.due("untell(-1)", shire.untell(-1), false);
        CALLS.due("untell(30)", shire.untell(30), false);
        shire.later(10);
        shire.seen(5, 3, true);
        shire.later(10);
        CALLS.due("untell(1)", shire.untell(1), false);
        CALLS.due("untell(0)", shire.untell(0), true);
        CALLS.due("untell(0) again", shire.untell(0), false);
        int[] due = {31, 31, 25, 25, 31, 31};
        int[] at = {-5, 9, 10, 19, 20, 1000000};
        for (int i = 0; i < at.length; i++) {
            CALLS.due("fits(" + at[i] + ")", shire.fits(at[i]), due[i]);
        }
        // TOLD and UNTOLD at one TIME: it never counts
        shire.seen(5, 3, false);
        shire.untell(1);
        CALLS.due("fits(20)", shire.fits(20), 31);
        shire.later(5);
        CALLS.due("untell(1) later", shire.untell(1), false);
    }

    private static void promise40() {
        FrothShire shire = new FrothShire();
        CALLS.due("later(0)", shire.later(0), 0);
        CALLS.due("later(7)", shire.later(7), 7);
        CALLS.due("later(-1)", shire.later(-1), -1);
        CALLS.due("later(1001)", shire.later(1001), -1);
        CALLS.due("later(2147483647)", shire.later(Integer.MAX_VALUE), -1);
        CALLS.due("about(9)", shire.about(9), 7);
        for (int i = 1; i <= 99; i++) {
            CALLS.due("later(1000)", shire.later(1000), 7 + 1000 * i);
        }
        CALLS.due("later(994)", shire.later(994), -1);
        CALLS.due("later(993)", shire.later(993), 100000);
        CALLS.due("later(1)", shire.later(1), -1);
        CALLS.due("later(0)", shire.later(0), 100000);
    }

    private static void promise41() {
        CALLS.due("fits(0) of none", new FrothShire().fits(0), 0);
        FrothShire shire = Calls.told(FOUR);
        CALLS.due("fits(0)", shire.fits(0), 31);
        shire.seen(5, 3, true);
        CALLS.due("fits(0): above 5", shire.fits(0), 25);
        CALLS.due("fits(-1): not known then", shire.fits(-1), 31);
        shire.seen(9, 1, false);
        CALLS.due("fits(0): 9 at most", shire.fits(0), 4);
        shire.seen(0, 4, true);
        CALLS.due("fits(0): none", shire.fits(0), 0);
        shire.untell(2);
        shire.later(1);
        shire.seen(7, 2, true);
        CALLS.due("fits(0)", shire.fits(0), 4);
        CALLS.due("fits(1)", shire.fits(1), 2);
        shire = Calls.told(FOUR);
        shire.seen(1, 0, true);
        CALLS.due("fits(0): 0 at least, if gone", shire.fits(0), 31);
        shire.seen(1, 1, false);
        CALLS.due("fits(0): gone behind one", shire.fits(0), 2);
        shire = Calls.told(FOUR);
        shire.seen(12, 3, false);
        CALLS.due("fits(0): 12 at most", shire.fits(0), 13);
        shire = Calls.told(FOUR);
        shire.seen(0, 3, false);
        CALLS.due("fits(0): three at first", shire.fits(0), 0);
    }

    private static void promise42() {
        CALLS.due("sure(0, 0) of none", new FrothShire().sure(0, 0), -1);
        FrothShire shire = Calls.told(FOUR);
        CALLS.due("sure(0, 0)", shire.sure(0, 0), 0);
        CALLS.due("sure(1, 0)", shire.sure(1, 0), 30);
        CALLS.due("sure(2, 0)", shire.sure(2, 0), -1);
        CALLS.due("sure(-1, 0)", shire.sure(-1, 0), -1);
        shire.later(3);
        shire.seen(5, 3, true);
        shire.seen(9, 1, false);
        CALLS.due("sure(0, 3)", shire.sure(0, 3), 6);
        CALLS.due("sure(1, 3)", shire.sure(1, 3), 9);
        CALLS.due("sure(0, 2)", shire.sure(0, 2), 0);
        CALLS.due("sure(1, 2)", shire.sure(1, 2), 30);
        shire.seen(8, 3, true);
        CALLS.due("sure(0, 3) of one that FITS", shire.sure(0, 3), 9);
        CALLS.due("sure(1, 3) of one that FITS", shire.sure(1, 3), 9);
        shire.seen(0, 8, true);
        CALLS.due("sure(0, 3) of no FITS", shire.sure(0, 3), -1);
        CALLS.due("sure(1, 3) of no FITS", shire.sure(1, 3), -1);
    }

    /** Of SIZE 0 he loses a side at once; else he has four for long. */
    private static void promise42Nothing() {
        FrothShire shire = Calls.told(
                "lord a size 99;lord b size 99;lord c size 99;lord d size 99 at a b c;lord e size 1 at a b c;flip a b;");
        shire.seen(1, 4, false);
        CALLS.due("fits(0) of SIZE 0 alone", shire.fits(0), 1);
        CALLS.due("sure(0, 0) of SIZE 0 alone", shire.sure(0, 0), 0);
        CALLS.due("sure(1, 0) of SIZE 0 alone", shire.sure(1, 0), 0);
        CALLS.due("ask(0, 0) of SIZE 0 alone", shire.ask(0, 0), 0);
        CALLS.due("ask(1, 0) of SIZE 0 alone", shire.ask(1, 0), 1);
    }

    private static void promise43() {
        CALLS.due("ask(0, 0) of none", new FrothShire().ask(0, 0), -1);
        FrothShire shire = Calls.told(FOUR);
        // behind 12 SEASONS 13 SIZES are gone, 18 are not
        CALLS.due("ask(0, 0)", shire.ask(0, 0), 12);
        CALLS.due("ask(1, 0)", shire.ask(1, 0), 18);
        CALLS.due("ask(2, 0)", shire.ask(2, 0), -1);
        CALLS.due("ask(-1, 0)", shire.ask(-1, 0), -1);
        shire.seen(5, 3, true);
        shire.seen(9, 1, false);
        CALLS.due("ask(0, 0) of 6 .. 9", shire.ask(0, 0), 7);
        CALLS.due("ask(1, 0) of 6 .. 9", shire.ask(1, 0), 2);
        shire.seen(8, 1, false);
        CALLS.due("ask(0, 0) of 6 .. 8: of like ones the least", shire.ask(0, 0), 6);
        CALLS.due("ask(1, 0) of 6 .. 8", shire.ask(1, 0), 2);
        shire.seen(6, 1, false);
        CALLS.due("ask(0, 0) of 6: nothing to ask", shire.ask(0, 0), 0);
        CALLS.due("ask(1, 0) of 6", shire.ask(1, 0), 1);
        shire.seen(6, 1, true);
        CALLS.due("ask(0, 0) of no FITS", shire.ask(0, 0), -1);
        CALLS.due("ask(0, -1): not known then", shire.ask(0, -1), 12);
        // 0 and 1 can't be told from one another, 2 can
        shire = Calls.told(FOUR);
        shire.seen(2, 1, false);
        CALLS.due("ask(0, 0) of 0 .. 2", shire.ask(0, 0), 1);
        CALLS.due("ask(1, 0) of 0 .. 2", shire.ask(1, 0), 2);
    }

    /** What was done since, and straws, do not matter; flips that were told do. */
    private static void asItWasTold() {
        FrothShire shire = Calls.told(FOUR);
        shire.season();
        shire.pop(3, 0);
        shire.gift(3, 9);
        shire.seen(5, 3, true);
        CALLS.due("fits(0)", shire.fits(0), 25);
        String five = "lord a size 9;lord b size 9;lord c size 9;lord d size 9 at a b c;lord e size 1 at a b c;";
        shire = Calls.told(five);
        shire.seen(0, 4, true);
        CALLS.due("fits(0) without a flip", shire.fits(0), 0);
        shire = Calls.told(five + "flip a b;");
        shire.seen(0, 4, true);
        CALLS.due("fits(0) with a flip", shire.fits(0), 31);
        shire.seen(8, 4, true);
        CALLS.due("fits(0) of who keeps his SIDES", shire.fits(0), 30);
        // SEED 400 behind draw 17: a straw would fall at once
        shire = Calls.told(five + "grows 0;straw 100;draw 17;");
        shire.seen(12, 3, true);
        shire.seen(12, 4, false);
        CALLS.due("fits(0): no straws", shire.fits(0), 30);
        // nothing else of the last LORD is unknown: one alone has no SIDES
        shire = Calls.told("lord a size 1;");
        shire.seen(3, 1, true);
        CALLS.due("fits(0) alone", shire.fits(0), 0);
    }
}
