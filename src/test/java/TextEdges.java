/** Terms, ==== 1: the text, its TOKENS, limits and FAULTS. */
final class TextEdges {
    private static final String THREE = "lord a size 1;lord b size 2;lord c size 3;";
    private static final String FOUR = THREE + "lord d size 4 at a b c;";
    private static final String FIVE = FOUR + "lord e size 5 at a b c;";
    private static final String EIGHT =
            FIVE + "lord f size 6 at a b d;lord g size 7 at a b f;lord h size 8 at a b g;";

    private TextEdges() {
    }

    static void all(Edges edges) {
        edges.open("## Terms", "==== 2.");
        texts(edges);
        lines(edges);
        formulas(edges);
        tokens(edges);
        lords(edges);
        limits(edges);
        faults(edges);
        sortsOfFaults(edges);
    }

    private static void dueRight(Calls calls, String text, int lords) {
        FrothShire shire = new FrothShire();
        calls.due("shire() of " + text, Calls.tell(shire, text), lords);
        calls.due("fault(0) of " + text, shire.fault(0), 0);
        calls.due("fault(1) of " + text, shire.fault(1), -1);
    }

    /** Cut off behind each TOKEN a line lacks something at its end; nor can "draw" stand in the place of one. */
    private static void dueLine(Calls calls, String ahead, String line, int lords) {
        String[] tokens = line.split(" ");
        dueRight(calls, ahead + line, lords);
        String text = ahead + tokens[0];
        for (int i = 1; i < tokens.length; i++) {
            calls.dueFault(text, 2, text.length());
            calls.dueFault(text + " \n", 2, text.length() + 2);
            calls.dueFault(text + " draw " + tokens[i], 2, text.length() + 1);
            text = text + " " + tokens[i];
        }
    }

    private static void value(Calls calls, String formula, int want) {
        FrothShire shire = Calls.told("lord a size 5;grows " + formula + ";");
        calls.due("lord(0, 4) by " + formula, shire.lord(0, 4), want);
    }

    private static void texts(Edges edges) {
        edges.edge("A SHIRE is a text of at most 1,600 bytes", calls -> {
            String line = "draw 7;";
            dueRight(calls, " ".repeat(1600), 0);
            String full = FIVE + "\n".repeat(1600 - FIVE.length() - line.length()) + line;
            FrothShire shire = Calls.told(full);
            calls.due("about(0) of 1,600 bytes", shire.about(0), 5);
            calls.due("about(5) of 1,600 bytes", shire.about(5), 7);
            calls.dueFault(full.substring(0, 1599) + " ", 2, 1600);
            calls.dueFault(full.substring(0, 1599) + "$", 1, 1599);
            calls.dueFault(" ".repeat(1592) + "straw 56", 2, 1600);
            calls.dueFault(" ".repeat(1591) + "abcdefghi", 1, 1591);
            Calls.feed(shire, full);
            calls.due("feed() beyond 1,600 bytes", shire.feed(-1, -1, -1, -1, -1), -1);
            calls.due("shire() of 1,600 bytes again", shire.shire(), 5);
        });
        edges.edge("(empty at first)", calls -> {
            FrothShire shire = new FrothShire();
            calls.due("about(0) at first", shire.about(0), 0);
            calls.due("about(2) at first", shire.about(2), 0);
            calls.due("about(10) at first", shire.about(10), 0);
            calls.due("shire() of nothing", shire.shire(), 0);
            calls.due("fault(0) of nothing", shire.fault(0), 0);
        });
        edges.edge("shire = {line}.", calls -> {
            dueRight(calls, "", 0);
            dueRight(calls, " \n", 0);
            dueRight(calls, "draw 5;", 0);
            dueRight(calls, "draw 5;straw 5;lord a size 1;", 1);
            calls.dueFault("draw 5;;", 2, 7);
            calls.dueFault("draw 5;5", 2, 7);
            calls.dueFault("draw 5;(", 2, 7);
        });
    }

    private static void lines(Edges edges) {
        edges.edge("line = lord NAME size N [at NAME NAME NAME] ;", calls -> {
            dueLine(calls, "", "lord a size 1 ;", 1);
            dueLine(calls, THREE, "lord d size 1 at a b c ;", 4);
            calls.dueFault(THREE + "lord d size 1 at a b c a ;", 2, THREE.length() + 23);
            // nothing can be left out
            calls.dueFault("lord size 1;", 2, 5);
            calls.dueFault("lord a 1;", 2, 7);
            calls.dueFault("lord a size;", 2, 11);
            calls.dueFault(THREE + "lord d size 1 a b c;", 2, THREE.length() + 14);
            calls.dueFault(THREE + "lord d size 1 at a b;", 2, THREE.length() + 20);
            calls.dueFault("lord a size 1 lord b size 1;", 2, 14);
        });
        edges.edge("| flip NAME NAME ;", calls -> {
            dueLine(calls, FIVE, "flip a b ;", 5);
            calls.dueFault(FIVE + "flip a;", 2, FIVE.length() + 6);
            calls.dueFault(FIVE + "flip a b c ;", 2, FIVE.length() + 9);
        });
        edges.edge("| grows e ;", calls -> dueLine(calls, "", "grows 5 ;", 0));
        edges.edge("| straw N ;", calls -> dueLine(calls, "", "straw 5 ;", 0));
        edges.edge("| draw N ;.", calls -> dueLine(calls, "", "draw 5 ;", 0));
    }

    private static void formulas(Edges edges) {
        edges.edge("e = both {or both}.", calls -> {
            dueLine(calls, "", "grows 1 or 2 or 3 ;", 0);
            value(calls, "0 or 0 or 0", 0);
            value(calls, "0 or 0 or 7", 1);
            value(calls, "7 or 0 and 0", 1);
            calls.dueFault("grows or 1;", 2, 6);
        });
        edges.edge("both = one {and one}.", calls -> {
            dueLine(calls, "", "grows 1 and 2 and 3 ;", 0);
            value(calls, "7 and 7 and 7", 1);
            value(calls, "7 and 7 and 0", 0);
            value(calls, "0 and 7 or 7", 1);
            calls.dueFault("grows and 1;", 2, 6);
        });
        edges.edge("one = not one | sum [(< | > | =) sum].", calls -> {
            dueLine(calls, "", "grows not not 1 ;", 0);
            dueLine(calls, "", "grows 1 < 2 ;", 0);
            value(calls, "not 2=3", 1);
            value(calls, "not 1+1", 0);
            value(calls, "1+1=4-2", 1);
            for (String sign : new String[] {"<", ">", "="}) {
                calls.dueFault("grows 1" + sign + "2<3;", 2, 9);
                calls.dueFault("grows 1" + sign + "not 1;", 2, 8);
                calls.dueFault("grows " + sign + "1;", 2, 6);
            }
        });
        edges.edge("sum = term {(+ | -) term}.", calls -> {
            dueLine(calls, "", "grows 1 + 2 - 3 + 4 ;", 0);
            value(calls, "9-5-3", 1);
            value(calls, "9-5+3", 7);
            value(calls, "9-2*3", 3);
            calls.dueFault("grows -1;", 2, 6);
            calls.dueFault("grows +1;", 2, 6);
            calls.dueFault("grows 1--1;", 2, 8);
        });
        edges.edge("term = unit {(* | / | %) unit}.", calls -> {
            dueLine(calls, "", "grows 1 * 2 / 3 % 4 ;", 0);
            value(calls, "60/5/3", 4);
            value(calls, "60/5*3", 36);
            value(calls, "60%7*3", 12);
            calls.dueFault("grows 2*-1;", 2, 8);
            calls.dueFault("grows *1;", 2, 6);
            calls.dueFault("grows 2*not 1;", 2, 8);
        });
        edges.edge("unit = N | sides | size | near | lords | season | ( e ).", calls -> {
            for (String unit : new String[] {"1", "sides", "size", "near", "lords", "season", "( 1 )"}) {
                dueLine(calls, "", "grows " + unit + " ;", 0);
            }
            value(calls, "2*(3 or 0)", 2);
            value(calls, "(((7)))", 7);
            for (String other : new String[] {"a", "lord", "at", "straw", "draw", "flip", "grows", ")", "()"}) {
                calls.dueFault("grows " + other + ";", 2, other.equals("()") ? 7 : 6);
            }
        });
    }

    private static void tokens(Edges edges) {
        edges.edge("TOKENS: words (a .. z, 8 at most)", calls -> {
            dueRight(calls, "lord abcdefgh size 1;lord z size 1;", 2);
            calls.dueFault("lord abcdefghi size 1;", 1, 5);
            calls.dueFault("lord abcdefghabcdefgh size 1;", 1, 5);
            calls.dueFault("lord a`", 1, 6);
            calls.dueFault("lord z{", 1, 6);
            calls.dueFault("lord A", 1, 5);
        });
        edges.edge("N (1 to 4 digits)", calls -> {
            dueRight(calls, "straw 0;", 0);
            dueRight(calls, "straw 0000;draw 0999;grows 9999;", 0);
            calls.due("about(13) of 0099", Calls.told("straw 0099;").about(13), 99);
            calls.dueFault("straw 00000;", 1, 6);
            calls.dueFault("grows 10000;", 1, 6);
            calls.dueFault("grows 1234567890;", 1, 6);
            calls.dueFault("straw :", 1, 6);
        });
        edges.edge("signs ; ( ) < > = + - * / %;", calls -> {
            for (int b = 0; b < 256; b++) {
                boolean letter = b >= 'a' && b <= 'z';
                boolean digit = b >= '0' && b <= '9';
                boolean token = letter || digit || ";()<>=+-*/%".indexOf(b) >= 0;
                if (b != 32 && b != 10) {
                    calls.dueFault("straw 1;" + (char) b, token ? 2 : 1, 8);
                }
            }
        });
        edges.edge("blanks (32, 10) part them or not;", calls -> {
            dueRight(calls, "\n \nlord\n\na size 1\n;lord  b\nsize 2 ; \n", 2);
            dueRight(calls, "lord a size1;straw5;draw6;grows(1)+2;", 1);
            calls.dueFault("grows 1 2;", 2, 8);
            calls.dueFault("lo rd a size 1;", 2, 0);
            calls.dueFault("straw 1;\t", 1, 8);
            calls.dueFault("straw 1;\r", 1, 8);
        });
        edges.edge("each is as long as can be;", calls -> {
            calls.dueFault("lorda size 1;", 2, 0);
            calls.dueFault("lord a size 1;lord b sizes 1;", 2, 21);
            value(calls, "lords", 1);
            value(calls, "12", 12);
            dueRight(calls, "lord lor size 1;lord lordsa size 2;", 2);
        });
        edges.edge("no letter directly behind an N.", calls -> {
            calls.dueFault("straw 5x;", 1, 6);
            calls.dueFault("straw 5555a;", 1, 6);
            calls.dueFault("lord a size 1at", 1, 12);
            calls.dueFault("grows 1or 2;", 1, 6);
            dueRight(calls, "grows 1 or 2;", 0);
            dueRight(calls, "grows 1\nor 2;", 0);
            dueRight(calls, "grows (1)or 2;", 0);
            // but an N may stand directly behind a word
            dueRight(calls, "grows 1 or2;", 0);
        });
        edges.edge("Words that stand for themselves here are no NAMES.", calls -> {
            String[] own = {"lord", "size", "at", "flip", "grows", "straw", "draw", "or", "and", "not", "sides", "near",
                "lords", "season"};
            for (String word : own) {
                calls.dueFault("lord " + word + " size 1;", 2, 5);
                calls.dueFault("flip " + word + " a;", 2, 5);
                calls.dueFault(THREE + "flip a " + word + ";", 2, THREE.length() + 7);
                calls.dueFault(THREE + "lord d size 1 at a " + word + " c;", 2, THREE.length() + 19);
                // words that are nearly these are NAMES
                String first = word.substring(0, word.length() - 1);
                for (String name : new String[] {"x" + word, word + "x", "x" + word.substring(1), first + "x"}) {
                    dueRight(calls, "lord " + name + " size 1;", 1);
                }
            }
        });
    }

    private static void lords(Edges edges) {
        edges.edge("At most 8 LORDS", calls -> {
            dueRight(calls, EIGHT, 8);
            calls.dueFault(EIGHT + "lord i size 9 at a b c;", 2, EIGHT.length());
            calls.dueFault(EIGHT + "  lord", 2, EIGHT.length() + 2);
        });
        edges.edge("(size 0 .. 999)", calls -> {
            FrothShire shire = Calls.told("lord a size 0;lord b size 999;");
            calls.due("lord(0, 1)", shire.lord(0, 1), 0);
            calls.due("lord(1, 1)", shire.lord(1, 1), 999);
            calls.dueFault("lord a size 1000;", 4, 12);
            calls.dueFault("lord a size 9999;", 4, 12);
        });
        edges.edge(", numbered as told;", calls -> {
            FrothShire shire = Calls.told("lord z size 3;lord y size 1;lord a size 2;lord b size 0 at z a y;");
            int[] sizes = {3, 1, 2, 0};
            for (int lord = 0; lord < 4; lord++) {
                calls.due("lord(" + lord + ", 1)", shire.lord(lord, 1), sizes[lord]);
            }
        });
        edges.edge("the first three without at,", calls -> {
            calls.dueFault("lord a size 1 at", 2, 14);
            calls.dueFault("lord a size 1;lord b size 1 at a a a;", 2, 28);
            calls.dueFault("lord a size 1;lord b size 1;lord c size 1 at a b b;", 2, 42);
        });
        edges.edge("each other one at a CORNER of three LORDS told ahead", calls -> {
            calls.dueFault(THREE + "lord d size 4;", 2, THREE.length() + 13);
            calls.dueFault(EIGHT.substring(0, EIGHT.length() - 10) + ";", 2, EIGHT.length() - 10);
            calls.dueFault(THREE + "lord d size 4 at d b c;", 5, THREE.length() + 17);
            calls.dueFault(THREE + "lord d size 4 at a b e;lord e size 1 at a b c;", 5, THREE.length() + 21);
        });
        edges.edge("(in whatever order);", calls -> {
            for (String order : new String[] {"a b c", "a c b", "b a c", "b c a", "c a b", "c b a"}) {
                FrothShire shire = Calls.told(FIVE.replace("at a b c", "at " + order));
                calls.due("about(2) at " + order, shire.about(2), 6);
                calls.due("corner(0, 2) at " + order, shire.corner(0, 2), 3);
            }
            // at a CORNER that is there once
            for (String order : new String[] {"a b d", "a d b", "b a d", "b d a", "d a b", "d b a"}) {
                dueRight(calls, FIVE + "lord f size 1 at " + order + ";", 6);
            }
        });
    }

    private static void limits(Edges edges) {
        edges.edge("12 flips", calls -> {
            String twelve = FIVE + "flip a b;flip d e;".repeat(6);
            dueRight(calls, twelve, 5);
            calls.dueFault(twelve + "flip a b;", 2, twelve.length());
            calls.dueFault(twelve + "straw 5; flip $", 2, twelve.length() + 9);
        });
        edges.edge("(of a WALL that can be FLIPPED then);", calls -> {
            dueRight(calls, FIVE + "flip a b;", 5);
            calls.dueFault("lord a size 1;lord b size 2;flip a b;", 3, 35);
            calls.dueFault(FOUR + "flip a b;lord e size 5 at a b c;", 3, FOUR.length() + 7);
            calls.dueFault(FIVE + "flip a b;flip a b;", 3, FIVE.length() + 16);
            dueRight(calls, FIVE + "flip a b;flip e d;flip b a;", 5);
            calls.due("wall(0, 1)", Calls.told(FIVE + "flip a b;flip e d;flip b a;").wall(0, 1), 0);
        });
        edges.edge("grows, straw (0 .. 100 of 100; 0), draw (0 .. 999; 0) once each;", calls -> {
            calls.due("straw 0", Calls.told("straw 0;").about(13), 0);
            calls.due("straw 100", Calls.told("straw 100;").about(13), 100);
            calls.due("straw that is not told", Calls.told("draw 5;").about(13), 0);
            calls.due("draw 0", Calls.told("draw 0;").about(5), 0);
            calls.due("draw 999", Calls.told("draw 999;").about(5), 999);
            calls.due("draw that is not told", Calls.told("straw 5;").about(5), 0);
            calls.dueFault("straw 101;", 4, 6);
            calls.dueFault("straw 9999;", 4, 6);
            calls.dueFault("draw 1000;", 4, 5);
            calls.dueFault("draw 9999;", 4, 5);
            calls.dueFault("straw 0;straw 0;", 2, 8);
            calls.dueFault("draw 0;straw 0;draw 0;", 2, 15);
            calls.dueFault("grows 0;draw 0;grows 0;", 2, 15);
        });
        edges.edge("60 units in all, 30 in one e", calls -> {
            String thirty = "grows 1" + "+1".repeat(29);
            calls.due("about(11) of 30", Calls.told(thirty + ";").about(11), 30);
            calls.dueFault(thirty + "+1;", 2, 66);
            calls.dueFault(thirty + " or near;", 2, 69);
            calls.dueFault(thirty + "=(1);", 2, 66);
            // ( e ) is a unit, too
            calls.due("about(11) with ( e )", Calls.told("grows 1" + "+1".repeat(27) + "+(1);").about(11), 30);
            calls.dueFault("grows 1" + "+1".repeat(28) + "+(1);", 2, 65);
            // all that stands within an e, in ( ) too, is in it
            calls.dueFault("grows (1" + "+1".repeat(14) + ")+(1" + "+1".repeat(13) + ");", 2, 65);
        });
        edges.edge("(a unit ( e ), or a one behind not, within 6 others at most).", calls -> {
            calls.due("( ) within 6", Calls.told("grows (((((((1)))))));").about(11), 8);
            calls.dueFault("grows ((((((((1))))))));", 2, 13);
            dueRight(calls, "grows " + "not ".repeat(7) + "1;", 0);
            calls.dueFault("grows " + "not ".repeat(8) + "1;", 2, 34);
            dueRight(calls, "grows not(not(not(not 1)));", 0);
            dueRight(calls, "grows (not(not(not(1))));", 0);
            calls.dueFault("grows (not(not(not(not 1))));", 2, 19);
            calls.dueFault("grows not(not(not(not(1))));", 2, 21);
            // beside one another they are not within one another
            dueRight(calls, "grows (((((((1)))))))+(((((((1)))))));", 0);
            dueRight(calls, "grows " + "not ".repeat(7) + "1 or " + "not ".repeat(7) + "1;", 0);
            // all that can be: 30 units, seven nots ahead of each
            String most = "not ".repeat(7) + "0";
            value(calls, most + (" and " + most).repeat(29), 1);
            value(calls, most + (" and " + most).repeat(28) + " and " + "not ".repeat(7) + "1", 0);
        });
    }

    private static void faults(Edges edges) {
        edges.edge("FAULTS, the first by its place", calls -> {
            calls.dueFault("lord a size 1000;$", 4, 12);
            calls.dueFault("lord a size 1 straw 999 $", 2, 14);
            calls.dueFault("flip z size;straw 5;straw", 5, 5);
            calls.dueFault("$ straw 5;", 1, 0);
            calls.dueFault(THREE + "lord a size 1000 at z z z;", 3, THREE.length() + 5);
            calls.dueFault(THREE + "lord d size 1000 at z z z;", 4, THREE.length() + 12);
        });
        edges.edge("(bytes from 0; the end: the text's length)", calls -> {
            calls.dueFault("froth", 2, 0);
            calls.dueFault("straw", 2, 5);
            calls.dueFault("straw \n \n", 2, 9);
            calls.dueFault("s", 2, 0);
            calls.dueFault("grows (1", 2, 8);
            calls.dueFault("grows 1", 2, 7);
        });
        edges.edge(", at one place the least:", calls -> {
            // no TOKEN, where another one could not stand, or a number could not be
            calls.dueFault("straw $", 1, 6);
            calls.dueFault("straw 5 $", 1, 8);
            calls.dueFault("straw 5 12345;", 1, 8);
            calls.dueFault("straw 999x;", 1, 6);
            calls.dueFault("straw 10000;", 1, 6);
            calls.dueFault("grows 1" + "+1".repeat(29) + "+12345;", 1, 66);
            calls.dueFault("grows (((((((abcdefghi", 1, 13);
            // what can't stand there, where no LORD has that NAME
            calls.dueFault("flip lord lord;", 2, 5);
            calls.dueFault(THREE + "lord d size 1 at a b near;", 2, THREE.length() + 21);
        });
    }

    private static void sortsOfFaults(Edges edges) {
        edges.edge("1 no TOKEN;", calls -> {
            calls.dueFault("\0", 1, 0);
            calls.dueFault("\u00ff", 1, 0);
            calls.dueFault(" !", 1, 1);
        });
        edges.edge("2 one that can't stand there", calls -> {
            calls.dueFault("straw ;", 2, 6);
            calls.dueFault("straw a;", 2, 6);
            calls.dueFault("lord 5 size 1;", 2, 5);
            calls.dueFault("5;", 2, 0);
        });
        edges.edge("(one of a sort too many or a second time: at the line's first word;", calls -> {
            calls.dueFault(EIGHT + "\nlord a size 1;", 2, EIGHT.length() + 1);
            calls.dueFault(FIVE + "flip a b;flip d e;".repeat(6) + "flip z z;", 2, FIVE.length() + 108);
            calls.dueFault("grows 1; grows 2;", 2, 9);
            calls.dueFault("straw 1; straw 101;", 2, 9);
            calls.dueFault("draw 1; draw x;", 2, 8);
        });
        edges.edge("a unit too many, what is within 7 others: at its first TOKEN, or the not);", calls -> {
            calls.dueFault("grows 1" + "+1".repeat(29) + "*season;", 2, 66);
            calls.dueFault("grows 1" + "+1".repeat(29) + " and(1);", 2, 69);
            // where no unit stands, either
            calls.dueFault("grows 1" + "+1".repeat(29) + "+;", 2, 66);
            calls.dueFault("grows (1" + "+1".repeat(28) + "+);", 2, 65);
            // the not is not the unit
            calls.dueFault("grows 1" + "+1".repeat(29) + " and not 1;", 2, 74);
            calls.dueFault("grows (((((((not 1)))))));", 2, 13);
            calls.dueFault("grows not(((((((1)))))));", 2, 15);
        });
        edges.edge("3 a NAME told already,", calls -> {
            calls.dueFault("lord a size 1;lord a size 1;", 3, 19);
            calls.dueFault(THREE + "lord c size 1 at a b c;", 3, THREE.length() + 5);
            calls.dueFault("lord abcdefgh size 1;lord abcdefgh size 1;", 3, 26);
            dueRight(calls, "lord abcdefgh size 1;lord abcdefg size 1;lord bcdefgh size 1;", 3);
            dueRight(calls, "lord ab size 1;lord ba size 1;lord aa size 1;lord a size 1 at ba ab aa;", 4);
            dueRight(calls, "lord az size 1;lord ba size 1;lord z size 1;", 3);
            dueRight(calls, "lord abcdefgh size 1;lord abcdefgi size 1;lord bbcdefgh size 1;", 3);
        });
        edges.edge("three LORDS who have no CORNER (at the third NAME),", calls -> {
            calls.dueFault(THREE + "lord d size 1 at a b b;", 3, THREE.length() + 21);
            calls.dueFault(THREE + "lord d size 1 at a a b;", 3, THREE.length() + 21);
            calls.dueFault(THREE + "lord d size 1 at c c c;", 3, THREE.length() + 21);
            // a b c is there twice, then once, then not
            calls.dueFault(FIVE + "lord f size 1 at c b a;", 3, FIVE.length() + 21);
            calls.dueFault(FIVE + "lord f size 1 at a d e;", 3, FIVE.length() + 21);
            calls.dueFault(FIVE + "flip a b;lord f size 1 at a b d;", 3, FIVE.length() + 30);
        });
        edges.edge("two of whose WALL can't be FLIPPED (at the second NAME);", calls -> {
            calls.dueFault(FIVE + "flip a a;", 3, FIVE.length() + 7);
            calls.dueFault(FIVE + "flip d e;", 3, FIVE.length() + 7);
            calls.dueFault(FIVE + "flip d a;", 3, FIVE.length() + 7);
            calls.dueFault(THREE + "flip a b;", 3, THREE.length() + 7);
            calls.dueFault("lord a size 1;flip a a;", 3, 21);
        });
        edges.edge("4 a number that can't be;", calls -> {
            calls.dueFault("lord a size 1000;", 4, 12);
            calls.dueFault("straw 0101;", 4, 6);
            calls.dueFault("draw 1000;", 4, 5);
            dueRight(calls, "grows 9999;", 0);
        });
        edges.edge("5 a NAME that no LORD has.", calls -> {
            calls.dueFault("flip a b;", 5, 5);
            calls.dueFault("lord a size 1;flip a b;", 5, 21);
            calls.dueFault(THREE + "lord d size 1 at x b c;", 5, THREE.length() + 17);
            calls.dueFault(THREE + "lord d size 1 at a x c;", 5, THREE.length() + 19);
            calls.dueFault(THREE + "lord d size 1 at a b x;", 5, THREE.length() + 21);
        });
    }
}
