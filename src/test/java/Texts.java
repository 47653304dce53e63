import java.util.ArrayList;
import java.util.Collections;
import java.util.List;
import java.util.Random;
import java.util.TreeSet;

/** Makes up texts of shires, most of them right. */
final class Texts {
    private final Random random;

    Texts(Random random) {
        this.random = random;
    }

    String any() {
        String text = right();
        int changes = random.nextInt(3) == 0 ? 1 + random.nextInt(2) : 0;
        for (int i = 0; i < changes && !text.isEmpty(); i++) {
            text = spoilt(text);
        }
        return text.length() > 1600 ? text.substring(0, 1600) : text;
    }

    private String spoilt(String text) {
        int at = random.nextInt(text.length());
        String[] put = {"", " ", ";", "a", "9", "12345", "abcdefghi", "size", "at", "not", "(", ")", "<", "$", "z", "0x",
            "\n", "lord", "flip a b;", "grows 1;", "straw 1;", "draw 1;", "or", "and", "+", "\u00e9", "A", "99", "1000"};
        int cut = random.nextInt(4);
        return text.substring(0, at) + put[random.nextInt(put.length)]
                + text.substring(Math.min(text.length(), at + cut));
    }

    /** A text that is a shire, if its formula has not too much in it. */
    String right() {
        int lords = random.nextInt(6) == 0 ? random.nextInt(4) : 3 + random.nextInt(6);
        Oracle.Moment moment = new Oracle.Moment();
        List<String> lines = new ArrayList<>();
        int flips = 0;
        for (int lord = 0; lord < lords; lord++) {
            lines.add(lordLine(moment, lord));
            for (int i = 0; i < 3 && flips < 12; i++) {
                String line = flipLine(moment);
                if (line != null) {
                    lines.add(line);
                    flips++;
                }
            }
        }
        if (random.nextInt(3) != 0) {
            lines.add(random.nextInt(lines.size() + 1), "grows " + formula(3) + ";");
        }
        if (random.nextBoolean()) {
            lines.add(random.nextInt(lines.size() + 1), "straw " + random.nextInt(101) + ";");
        }
        if (random.nextBoolean()) {
            lines.add(random.nextInt(lines.size() + 1), "draw " + random.nextInt(1000) + ";");
        }
        return String.join(random.nextBoolean() ? "" : "\n", lines);
    }

    private String lordLine(Oracle.Moment moment, int lord) {
        int size = random.nextInt(8) == 0 ? random.nextInt(1000) : random.nextInt(14);
        String line = "lord " + name(lord) + " size " + size;
        moment.there.add(lord);
        moment.sizes.add(size);
        if (lord == 2) {
            moment.add(0, 1, 2);
            moment.add(0, 1, 2);
        } else if (lord > 2) {
            TreeSet<Integer> corner = moment.corners.get(random.nextInt(moment.corners.size()));
            List<Integer> three = new ArrayList<>(corner);
            Collections.shuffle(three, random);
            line += " at " + name(three.get(0)) + " " + name(three.get(1)) + " " + name(three.get(2));
            moment.removeCorner(corner);
            moment.add(lord, three.get(0), three.get(1));
            moment.add(lord, three.get(0), three.get(2));
            moment.add(lord, three.get(1), three.get(2));
        }
        return line + ";";
    }

    private String flipLine(Oracle.Moment moment) {
        int a = random.nextInt(8);
        int b = random.nextInt(8);
        if (moment.flipped(a, b) == null) {
            return null;
        }
        moment.flip(a, b);
        return "flip " + name(a) + " " + name(b) + ";";
    }

    private static String name(int lord) {
        return new String[] {"a", "bb", "c", "dlord", "e", "abcdefgh", "abcdefgx", "h"}[lord];
    }

    private String formula(int depth) {
        int sort = random.nextInt(depth == 0 ? 3 : 9);
        String[] units = {"sides", "size", "near", "lords", "season"};
        switch (sort) {
            case 0:
                return "" + random.nextInt(random.nextBoolean() ? 8 : 10000);
            case 1:
            case 2:
                return units[random.nextInt(5)];
            case 3:
                return "(" + formula(depth - 1) + ")";
            case 4:
                return "sides-" + (3 + random.nextInt(4));
            case 5:
                return "(not " + formula(depth - 1) + ")";
            case 6:
                return "(" + formula(depth - 1) + ")" + "+-*/%".charAt(random.nextInt(5)) + formula(depth - 1);
            case 7:
                return "(" + formula(depth - 1) + "<>=".charAt(random.nextInt(3)) + formula(depth - 1) + ")";
            default:
                return "(" + formula(depth - 1) + (random.nextBoolean() ? " and " : " or ") + formula(depth - 1) + ")";
        }
    }
}
