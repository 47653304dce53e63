/** Promises 1 to 5: a new object, the TAPE, texts and their FAULTS. */
public final class TextTest {
    private static final String THREE = "lord a size 1;lord b size 2;lord c size 3;";
    private static final String FIVE = THREE + "lord d size 4 at a b c;lord e size 5 at c b a;";
    private static final Calls CALLS = new Calls("TextTest");

    public static void main(String[] args) {
        promise1();
        promise2();
        promise3();
        promise4();
        promise4Again();
        promise5();
        tokens();
        lines();
        lords();
        flips();
        numbers();
        formulas();
        limitsOfFormulas();
        values();
        CALLS.end();
    }

    private static void promise1() {
        CALLS.due("NONE", FrothShire.NONE, -1);
        FrothShire shire = new FrothShire();
        for (int what = 0; what < 14; what++) {
            CALLS.due("about(" + what + ") of a new one", shire.about(what), 0);
        }
        CALLS.due("king() of a new one", shire.king(), -1);
        CALLS.due("lord(0, 0) of a new one", shire.lord(0, 0), -100);
        CALLS.due("undo() of a new one", shire.undo(), false);
        CALLS.due("redo() of a new one", shire.redo(), false);
        CALLS.due("back(0) of a new one", shire.back(0), -1);
        CALLS.due("image(0) of a new one", shire.image(0), 0);
        CALLS.due("season() of a new one", shire.season(), 0);
        CALLS.due("back(0) behind it", shire.back(0), 0);
        CALLS.due("about(4) then", shire.about(4), 0);
    }

    private static void promise2() {
        FrothShire shire = new FrothShire();
        for (int i = 1; i <= 80; i++) {
            CALLS.due("feed() number " + i, shire.feed(0x20202020, 0x20202020, 0x0a0a0a0a, 0x20202020, 0x20202020),
                    20 * i);
        }
        CALLS.due("feed() beyond 1,600", shire.feed(-1, -1, -1, -1, -1), -1);
        CALLS.due("about(10)", shire.about(10), 1600);
        CALLS.due("end(1581)", shire.end(1581), 1581);
        CALLS.due("feed() that would be beyond", shire.feed(-1, -1, -1, -1, -1), -1);
        CALLS.due("about(10)", shire.about(10), 1581);
        CALLS.due("end(1580)", shire.end(1580), 1580);
        CALLS.due("feed() up to 1,600", shire.feed(0x20202020, 0x20202020, 0x0a0a0a0a, 0x20202020, 0x20202020), 1600);
        CALLS.due("shire() of blanks", shire.shire(), 0);
        // the highest byte is the first: "draw 7;" at the very end of twenty
        shire.feed(0x20202020, 0x20202020, 0x20202020, 0x20647261, 0x7720373b);
        CALLS.due("shire()", shire.shire(), 0);
        CALLS.due("about(5)", shire.about(5), 7);
    }

    private static void promise3() {
        FrothShire shire = new FrothShire();
        CALLS.due("end(0) of nothing", shire.end(0), 0);
        CALLS.due("end(1) of nothing", shire.end(1), -1);
        CALLS.due("end(-1)", shire.end(-1), -1);
        shire.feed(0x64726177, 0x20313233, 0x3b3b3b3b, -1, -1);
        CALLS.due("end(21)", shire.end(21), -1);
        CALLS.due("end(-2147483648)", shire.end(Integer.MIN_VALUE), -1);
        CALLS.due("about(10)", shire.about(10), 20);
        CALLS.due("end(20)", shire.end(20), 20);
        CALLS.due("end(9)", shire.end(9), 9);
        CALLS.due("end(10)", shire.end(10), -1);
        CALLS.due("shire()", shire.shire(), 0);
        CALLS.due("about(5)", shire.about(5), 123);
        CALLS.due("about(10)", shire.about(10), 0);
        // what was behind the end is not looked at any more
        dueCut("straw 12;", 7, 2, 7);
        dueCut("lordx size 1;", 4, 2, 4);
        dueCut("draw  \n  5;", 5, 2, 5);
        dueCut("straw 5x;", 7, 2, 7);
        dueCut("grows 12345;", 10, 2, 10);
    }

    private static void dueCut(String text, int length, int sort, int place) {
        FrothShire shire = new FrothShire();
        Calls.feed(shire, text);
        CALLS.due("end(" + length + ") of " + text, shire.end(length), length);
        CALLS.due("shire() of a part of " + text, shire.shire(), -1);
        CALLS.due("fault(0) of a part of " + text, shire.fault(0), sort);
        CALLS.due("fault(1) of a part of " + text, shire.fault(1), place);
    }

    private static void promise4() {
        FrothShire shire = new FrothShire();
        shire.later(5);
        CALLS.due("shire()", Calls.tell(shire, FIVE + "straw 7;draw 8;grows sides-3;"), 5);
        shire.season();
        shire.gift(0, 9);
        shire.undo();
        shire.seen(0, 3, true);
        shire.image(1);
        shire.banners();
        int[] before = new int[14];
        for (int what = 0; what < 14; what++) {
            before[what] = shire.about(what);
        }
        CALLS.due("shire() with a FAULT", Calls.tell(shire, "lord x size 1;lord x size 2;"), -1);
        for (int what = 0; what < 14; what++) {
            CALLS.due("about(" + what + ") behind a FAULT", shire.about(what), before[what]);
        }
        CALLS.due("redo() behind a FAULT", shire.redo(), true);
        CALLS.due("lies(0) behind a FAULT", shire.lies(0), 0);
        CALLS.due("back(1) behind a FAULT", shire.back(1), 1);
        CALLS.due("fits(5) behind a FAULT", shire.fits(5), 31);
        CALLS.due("shire() anew", Calls.tell(shire, THREE), 3);
        int[] after = {3, 7, 2, 3, 0, 0, 0, 0, 0, 5, 0, 0, 0, 0};
        for (int what = 0; what < 14; what++) {
            CALLS.due("about(" + what + ") anew", shire.about(what), after[what]);
        }
        CALLS.due("lies(0) anew", shire.lies(0), -2);
        CALLS.due("back(1) anew", shire.back(1), -1);
        CALLS.due("undo() anew", shire.undo(), false);
        CALLS.due("untell(0) anew", shire.untell(0), false);
        CALLS.due("lord(0, 4) anew", shire.lord(0, 4), -2);
        CALLS.due("shire() of nothing", shire.shire(), 0);
        CALLS.due("about(0) of nothing", shire.about(0), 0);
    }

    /** Nothing of an earlier text, right or wrong, stays behind in a later one. */
    private static void promise4Again() {
        FrothShire shire = new FrothShire();
        String full = FIVE + "flip a b;flip d e;".repeat(6) + "straw 9;draw 8;grows sides*2;";
        for (int i = 0; i < 3; i++) {
            CALLS.due("shire() of all, " + i, Calls.tell(shire, full), 5);
            CALLS.due("about(11) of all, " + i, shire.about(11), 2);
            CALLS.due("about(13) of all, " + i, shire.about(13), 9);
            shire.season();
            shire.seen(0, 4, true);
            CALLS.due("fits(0) of all, " + i, shire.fits(0), 0);
            CALLS.due("shire() of a FAULT, " + i, Calls.tell(shire, "straw 3;draw 4;grows 5;" + FIVE + "?"), -1);
            CALLS.due("shire() of three, " + i, Calls.tell(shire, THREE), 3);
            int[] three = {3, 7, 2, 3, 0, 0, 0, 0, 0, 0, 0, 0, 0, 0};
            for (int what = 0; what < 14; what++) {
                CALLS.due("about(" + what + ") of three, " + i, shire.about(what), three[what]);
            }
            CALLS.due("lord(0, 4) of three, " + i, shire.lord(0, 4), -2);
            CALLS.due("lord(2, 1) of three, " + i, shire.lord(2, 1), 3);
            shire.seen(0, 2, true);
            CALLS.due("fits(0) of three, " + i, shire.fits(0), 31);
        }
    }

    private static void promise5() {
        FrothShire shire = new FrothShire();
        CALLS.due("fault(0) at first", shire.fault(0), 0);
        CALLS.due("fault(1) at first", shire.fault(1), -1);
        Calls.tell(shire, "straw 5");
        CALLS.due("fault(0)", shire.fault(0), 2);
        CALLS.due("fault(1)", shire.fault(1), 7);
        CALLS.due("fault(2)", shire.fault(2), -1);
        CALLS.due("fault(-1)", shire.fault(-1), -1);
        Calls.tell(shire, "straw 5;");
        CALLS.due("fault(0) behind one that is right", shire.fault(0), 0);
        CALLS.due("fault(1) behind one that is right", shire.fault(1), -1);
    }

    private static void tokens() {
        CALLS.dueFault("$", 1, 0);
        CALLS.dueFault("straw 1;\t", 1, 8);
        CALLS.dueFault("straw 1;\0", 1, 8);
        CALLS.dueFault("straw 1;\u00e9", 1, 8);
        // a byte above 127 that is ; but for its highest bit
        CALLS.dueFault("straw 1" + (char) (';' + 128), 1, 7);
        CALLS.dueFault("Lord a size 1;", 1, 0);
        CALLS.dueFault("lord abcdefghi size 1;", 1, 5);
        CALLS.dueFault("straw 00001;", 1, 6);
        CALLS.dueFault("lord a size 1at", 1, 12);
        CALLS.dueFault("straw 1x;", 1, 6);
        CALLS.dueFault("lord ;$", 2, 5);
        CALLS.due("a word of eight", Calls.tell(new FrothShire(), "lord abcdefgh size 1;"), 1);
        CALLS.due("nothing parts them", Calls.tell(new FrothShire(), "lord a size0001;straw5;grows(1)or 2;draw6;"), 1);
        CALLS.due("blanks part them", Calls.tell(new FrothShire(), " \nlord\na\n \nsize\n1\n;\n"), 1);
        CALLS.dueFault("lorda size 1;", 2, 0);
        CALLS.dueFault("lord a1 size 1;", 2, 6);
    }

    private static void lines() {
        CALLS.dueFault("froth", 2, 0);
        CALLS.dueFault(";", 2, 0);
        CALLS.dueFault("5", 2, 0);
        CALLS.dueFault("size", 2, 0);
        CALLS.dueFault("straw 1;  x", 2, 10);
        CALLS.dueFault("straw", 2, 5);
        CALLS.dueFault("straw  \n", 2, 8);
        CALLS.dueFault("straw 5 5", 2, 8);
        CALLS.dueFault("draw x;", 2, 5);
        CALLS.dueFault("grows 1;grows $", 2, 8);
        CALLS.dueFault("straw 1;straw 2;", 2, 8);
        CALLS.dueFault("draw 1;draw 2;", 2, 7);
    }

    private static void lords() {
        CALLS.dueFault("lord", 2, 4);
        CALLS.dueFault("lord 1", 2, 5);
        String[] own = {"lord", "size", "at", "flip", "grows", "straw", "draw", "or", "and", "not", "sides", "near",
            "lords", "season"};
        for (String word : own) {
            CALLS.dueFault("lord " + word + " size 1;", 2, 5);
        }
        String[] free = {"e", "both", "one", "sum", "term", "unit", "line", "name", "n", "shire", "sizes", "siz", "cord",
            "slip", "prows", "it", "xr", "ant", "hot", "tides", "fear", "words", "reason", "orders", "andy", "seasons"};
        for (String word : free) {
            CALLS.due("lord " + word, Calls.tell(new FrothShire(), "lord " + word + " size 1;"), 1);
        }
        String alike = "lord a size 1;lord aa size 2;lord aaa size 3;lord b size 4 at aa a aaa;";
        CALLS.due("NAMES that are alike", Calls.tell(new FrothShire(), alike), 4);
        CALLS.dueFault("lord abcdefgh size 1;lord abcdefgi size 1;lord abcdefgh", 3, 47);
        CALLS.dueFault("lord a 5", 2, 7);
        CALLS.dueFault("lord a size a", 2, 12);
        CALLS.dueFault("lord a size 1 at a a a;", 2, 14);
        CALLS.dueFault("lord a size 1;lord a size 2000;", 3, 19);
        CALLS.dueFault(THREE + "lord d size 4;", 2, 55);
        CALLS.dueFault(THREE + "lord d size 4 at a b;", 2, 62);
        CALLS.dueFault(THREE + "lord d size 4 at a b c a;", 2, 65);
        CALLS.dueFault(THREE + "lord d size 4 at at b c;", 2, 59);
        CALLS.dueFault(THREE + "lord d size 4 at d b c;", 5, 59);
        CALLS.dueFault(THREE + "lord d size 4 at a z z;", 5, 61);
        CALLS.dueFault(THREE + "lord d size 4 at a a b;", 3, 63);
        CALLS.dueFault(FIVE + "lord f size 4 at a b c;", 3, FIVE.length() + 21);
        CALLS.dueFault(FIVE + "lord f size 4 at a d e;", 3, FIVE.length() + 21);
        FrothShire shire = Calls.told(FIVE);
        int[] corners = {0, 1, 3, 0, 1, 4, 0, 2, 3, 0, 2, 4, 1, 2, 3, 1, 2, 4};
        for (int i = 0; i < 18; i++) {
            CALLS.due("corner() number " + i / 3, shire.corner(i / 3, i % 3), corners[i]);
        }
        String eight = FIVE + "lord f size 1 at a b d;lord g size 1 at a b f;lord h size 999 at a g b;";
        CALLS.due("eight LORDS", Calls.tell(new FrothShire(), eight), 8);
        CALLS.dueFault(eight + "lord i $", 2, eight.length());
    }

    private static void flips() {
        CALLS.dueFault("flip", 2, 4);
        CALLS.dueFault("flip z z;", 5, 5);
        CALLS.dueFault("flip size z;", 2, 5);
        CALLS.dueFault(THREE + "flip a z;", 5, 49);
        CALLS.dueFault(THREE + "flip a size;", 2, 49);
        CALLS.dueFault(THREE + "flip a b;", 3, 49);
        CALLS.dueFault(THREE + "flip a a;", 3, 49);
        CALLS.dueFault(FIVE + "flip d e;", 3, FIVE.length() + 7);
        CALLS.dueFault(FIVE + "flip a d;", 3, FIVE.length() + 7);
        CALLS.dueFault(FIVE + "flip a b flip", 2, FIVE.length() + 9);
        FrothShire shire = Calls.told(FIVE + "flip b a;");
        CALLS.due("wall(0, 1)", shire.wall(0, 1), 0);
        CALLS.due("wall(3, 4)", shire.wall(3, 4), 3);
        CALLS.due("about(6)", shire.about(6), 0);
        // a LORD may be born at a CORNER that came by a flip
        CALLS.due("born behind a flip", Calls.tell(new FrothShire(), FIVE + "flip a b;lord f size 1 at e d a;"), 6);
        CALLS.dueFault(FIVE + "flip a b;lord f size 1 at e b a;", 3, FIVE.length() + 30);
        String twelve = FIVE + "flip a b;flip d e;".repeat(6);
        CALLS.due("twelve flips", Calls.tell(new FrothShire(), twelve), 5);
        CALLS.dueFault(twelve + "flip a b;", 2, twelve.length());
    }

    private static void numbers() {
        CALLS.dueFault("lord a size 1000;", 4, 12);
        CALLS.dueFault("straw 101;", 4, 6);
        CALLS.dueFault("draw 1000;", 4, 5);
        FrothShire shire = Calls.told("straw 100;draw 999;lord a size 999;lord b size 0;");
        CALLS.due("straw", shire.about(13), 100);
        CALLS.due("draw", shire.about(5), 999);
        CALLS.due("size", shire.lord(0, 1), 999);
        CALLS.due("size", shire.lord(1, 1), 0);
    }

    private static void formulas() {
        CALLS.dueFault("grows ;", 2, 6);
        CALLS.dueFault("grows a;", 2, 6);
        CALLS.dueFault("grows lord;", 2, 6);
        CALLS.dueFault("grows -1;", 2, 6);
        CALLS.dueFault("grows 1 1;", 2, 8);
        CALLS.dueFault("grows 1+;", 2, 8);
        CALLS.dueFault("grows 1+not 1;", 2, 8);
        CALLS.dueFault("grows 1=not 1;", 2, 8);
        CALLS.dueFault("grows 1<2>3;", 2, 9);
        CALLS.dueFault("grows (1;", 2, 8);
        CALLS.dueFault("grows 1);", 2, 7);
        CALLS.dueFault("grows ();", 2, 7);
        CALLS.dueFault("grows 1 and;", 2, 11);
        CALLS.dueFault("grows 1 or", 2, 10);
        CALLS.dueFault("grows 1", 2, 7);
        CALLS.dueFault("grows 12345", 1, 6);
        CALLS.dueFault("grows 1or 1;", 1, 6);
    }

    private static void limitsOfFormulas() {
        CALLS.due("30 units", Calls.told("grows 1" + "+1".repeat(29) + ";").about(11), 30);
        CALLS.dueFault("grows 1" + "+1".repeat(30) + ";", 2, 66);
        CALLS.dueFault("grows 1" + "+1".repeat(29) + "+(1);", 2, 66);
        CALLS.dueFault("grows 1" + "+1".repeat(29) + "+$", 1, 66);
        // what stands in ( ) is a unit and has units
        CALLS.due("units in units", Calls.told("grows ((1)+2)*sides;").about(11), 5);
        CALLS.dueFault("grows (1" + "+1".repeat(29) + ");", 2, 65);
        CALLS.due("seven within", Calls.told("grows (((((((1)))))));").about(11), 8);
        CALLS.dueFault("grows ((((((((1))))))));", 2, 13);
        CALLS.due("seven nots", Calls.told("grows " + "not ".repeat(7) + "1;").about(11), 1);
        CALLS.dueFault("grows " + "not ".repeat(8) + "1;", 2, 34);
        CALLS.due("seven of both sorts", Calls.told("grows not (not (not (not 1)));").about(11), 4);
        CALLS.dueFault("grows not (not (not (not (1", 2, 25);
        CALLS.dueFault("grows not (not (not (not not 1", 2, 25);
        CALLS.due("nots beside one another", Calls.told("grows not not not not not not not 0 and "
                + "not not not not not not not 0;lord a size 1;").lord(0, 4), 1);
        // all that can be in one: 30 units, seven nots ahead of each
        String most = "not not not not not not not 0";
        FrothShire shire = Calls.told("lord a size 5;grows " + most + (" and " + most).repeat(29) + ";");
        CALLS.due("the longest formula", shire.lord(0, 4), 1);
        shire = Calls.told("lord a size 5;grows " + most + (" and " + most).repeat(28) + " and not 1;");
        CALLS.due("the longest formula, not so", shire.lord(0, 4), 0);
    }

    private static void values() {
        value("7", 7);
        value("0-7", -7);
        value("9999", 99);
        value("0-9999", -99);
        value("7-2-1", 4);
        value("100/7/2", 7);
        value("7/2*2", 6);
        value("7%4", 3);
        value("10%4*3", 6);
        value("1+9%5", 5);
        value("20/3%4", 2);
        value("9-2*3", 3);
        value("2*9-3", 15);
        value("2+1=2+1", 1);
        value("5=2+3", 1);
        value("2+4<3*2", 0);
        value("0=1 or 1", 1);
        value("(0-7)/2", -3);
        value("(0-7)%4", -3);
        value("7/(0-2)", -3);
        value("7%(0-4)", 3);
        value("5/0", 0);
        value("5%0", 0);
        value("2+3*4", 14);
        value("(2+3)*4", 20);
        value("1<2", 1);
        value("2<2", 0);
        value("3>2", 1);
        value("2>2", 0);
        value("2=2", 1);
        value("1+1=2", 1);
        value("2=3", 0);
        value("5 and 0-3", 1);
        value("5 and 0", 0);
        value("0 or 0", 0);
        value("0 or 9", 1);
        value("1 or 1 and 0", 1);
        value("(1 or 1) and 0", 0);
        value("not 5", 0);
        value("not 0", 1);
        value("not not 5", 1);
        value("not 1=2", 1);
        value("not 0 and 0", 0);
        value("(not 0)*5", 5);
        // ints wrap: 999700029999 is -1027349969
        value("9999*9999*9999<0", 1);
        value("9999*9999*9999/9999/9999", -10);
        value("(0-2048*1024*1024)/(0-1)<0", 1);
        value("(0-2048*1024*1024)%(0-1)", 0);
        FrothShire shire = Calls.told(FIVE + "grows sides*20+lords;");
        CALLS.due("sides and lords", shire.lord(0, 4), 85);
        CALLS.due("sides and lords", shire.lord(3, 4), 65);
        CALLS.due("near", Calls.told(FIVE + "grows near;").lord(0, 4), 14);
        CALLS.due("near", Calls.told(FIVE + "grows near;").lord(3, 4), 6);
        CALLS.due("size", Calls.told(FIVE + "grows size;").lord(3, 4), 4);
        shire = Calls.told(FIVE + "grows season;");
        CALLS.due("season", shire.lord(3, 4), 0);
        shire.season();
        CALLS.due("season", shire.lord(3, 4), 1);
    }

    private static void value(String formula, int want) {
        FrothShire shire = Calls.told("lord a size 5;grows " + formula + ";");
        CALLS.due("lord(0, 4) by " + formula, shire.lord(0, 4), want);
    }
}
