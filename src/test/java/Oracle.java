import java.util.ArrayList;
import java.util.Arrays;
import java.util.Collections;
import java.util.Comparator;
import java.util.HashMap;
import java.util.HashSet;
import java.util.List;
import java.util.Map;
import java.util.Set;
import java.util.TreeSet;

/**
 * The document written down a second time, as plainly as the whole Java library allows and with no thought
 * of room or speed, so that OracleTest can hold the answers of FrothShire against it.
 */
final class Oracle {
    static final int NONE = -1;
    private static final Set<String> OWN_WORDS = Set.of("lord", "size", "at", "flip", "grows", "straw", "draw",
            "or", "and", "not", "sides", "near", "lords", "season");

    /** What a formula is of. */
    record Given(int sides, int size, int near, int lords, int season) {
    }

    /** A formula, or a part of one. */
    interface Part {
        int of(Given given);
    }

    /** A text that is no SHIRE. */
    static final class Fault extends RuntimeException {
        private static final long serialVersionUID = 1;
        final int sort;
        final int place;

        Fault(int sort, int place) {
            this.sort = sort;
            this.place = place;
        }
    }

    static final Comparator<TreeSet<Integer>> IN_ORDER = (one, other) -> {
        List<Integer> a = new ArrayList<>(one);
        List<Integer> b = new ArrayList<>(other);
        for (int i = 0; i < 3; i++) {
            if (!a.get(i).equals(b.get(i))) {
                return a.get(i) - b.get(i);
            }
        }
        return 0;
    };

    /** A moment of the shire; never changed by a question. */
    static final class Moment {
        List<TreeSet<Integer>> corners = new ArrayList<>();
        List<Integer> sizes = new ArrayList<>();
        TreeSet<Integer> there = new TreeSet<>();
        int season = 0;
        int seed = 0;

        Moment copy() {
            Moment copy = new Moment();
            for (TreeSet<Integer> corner : corners) {
                copy.corners.add(new TreeSet<>(corner));
            }
            copy.sizes.addAll(sizes);
            copy.there.addAll(there);
            copy.season = season;
            copy.seed = seed;
            return copy;
        }

        List<TreeSet<Integer>> cornersWith(Integer... lords) {
            List<TreeSet<Integer>> found = new ArrayList<>();
            for (TreeSet<Integer> corner : corners) {
                if (corner.containsAll(Arrays.asList(lords))) {
                    found.add(corner);
                }
            }
            return found;
        }

        boolean border(int a, int b) {
            return a != b && !cornersWith(a, b).isEmpty();
        }

        TreeSet<Integer> bordered(int a) {
            TreeSet<Integer> found = new TreeSet<>();
            for (int b : there) {
                if (border(a, b)) {
                    found.add(b);
                }
            }
            return found;
        }

        int sides(int a) {
            return cornersWith(a).size();
        }

        void removeCorner(TreeSet<Integer> corner) {
            corners.remove(corners.indexOf(corner));
        }

        void add(Integer... lords) {
            corners.add(new TreeSet<>(Arrays.asList(lords)));
            corners.sort(IN_ORDER);
        }

        /** The two LORDS between whom the WALL would be; null if it can't be FLIPPED. */
        int[] flipped(int a, int b) {
            if (!there.contains(a) || !there.contains(b) || a == b) {
                return null;
            }
            List<TreeSet<Integer>> two = cornersWith(a, b);
            if (two.size() != 2) {
                return null;
            }
            int c = third(two.get(0), a, b);
            int d = third(two.get(1), a, b);
            if (c == d || border(c, d) || sides(a) < 4 || sides(b) < 4) {
                return null;
            }
            return new int[] {Math.min(c, d), Math.max(c, d)};
        }

        private static int third(TreeSet<Integer> corner, int a, int b) {
            for (int lord : corner) {
                if (lord != a && lord != b) {
                    return lord;
                }
            }
            throw new IllegalStateException("a corner has three");
        }

        void flip(int a, int b) {
            int[] ends = flipped(a, b);
            for (TreeSet<Integer> corner : cornersWith(a, b)) {
                removeCorner(corner);
            }
            add(a, ends[0], ends[1]);
            add(b, ends[0], ends[1]);
        }

        boolean canPop(int a, int b) {
            if (!there.contains(a) || !there.contains(b) || !border(a, b) || there.size() <= 3) {
                return false;
            }
            TreeSet<Integer> both = bordered(a);
            both.retainAll(bordered(b));
            return both.size() == 2;
        }

        void pop(int a, int b) {
            List<TreeSet<Integer>> next = new ArrayList<>();
            for (TreeSet<Integer> corner : corners) {
                if (corner.contains(a) && corner.contains(b)) {
                    continue;
                }
                TreeSet<Integer> changed = new TreeSet<>(corner);
                if (changed.remove(b)) {
                    changed.add(a);
                }
                next.add(changed);
            }
            next.sort(IN_ORDER);
            corners = next;
            sizes.set(a, Math.min(999, sizes.get(a) + sizes.get(b)));
            sizes.set(b, 0);
            there.remove(b);
        }

        Given given(int lord) {
            int near = 0;
            for (int other : bordered(lord)) {
                near += sizes.get(other);
            }
            return new Given(sides(lord), sizes.get(lord), near, there.size(), season);
        }

        int growth(int lord, Part grows) {
            return Math.max(-99, Math.min(99, grows.of(given(lord))));
        }

        void pass(Part grows, int straw, boolean earnest) {
            List<Integer> next = new ArrayList<>(sizes);
            for (int lord : there) {
                next.set(lord, Math.max(0, Math.min(999, sizes.get(lord) + growth(lord, grows))));
            }
            sizes = next;
            for (int lord = 0; lord < sizes.size(); lord++) {
                if (there.contains(lord) && sizes.get(lord) == 0) {
                    shrink(lord);
                }
            }
            if (earnest) {
                seed = (seed * 137 + 71) % 1000;
                if (seed % 100 < straw && !corners.isEmpty()) {
                    List<Integer> corner = new ArrayList<>(corners.get(seed % corners.size()));
                    if (flipped(corner.get(0), corner.get(1)) != null) {
                        flip(corner.get(0), corner.get(1));
                    }
                }
            }
            season++;
        }

        private void shrink(int lord) {
            if (sides(lord) == 3 && there.size() > 3) {
                TreeSet<Integer> about = bordered(lord);
                for (TreeSet<Integer> corner : cornersWith(lord)) {
                    removeCorner(corner);
                }
                there.remove(lord);
                corners.add(about);
                corners.sort(IN_ORDER);
                return;
            }
            for (int other : new ArrayList<>(there)) {
                if (flipped(lord, other) != null) {
                    flip(lord, other);
                    return;
                }
            }
        }
    }

    /** All that a text tells. */
    static final class Told {
        final Moment moment = new Moment();
        final List<String> names = new ArrayList<>();
        Part grows = given -> given.sides() - 4;
        int straw = 0;
        int units = 0;
    }

    record Token(String text, int place) {
        boolean isWord() {
            return !text.isEmpty() && text.charAt(0) >= 'a' && text.charAt(0) <= 'z';
        }

        boolean isNumber() {
            return !text.isEmpty() && text.charAt(0) >= '0' && text.charAt(0) <= '9';
        }

        boolean isName() {
            return isWord() && !OWN_WORDS.contains(text);
        }
    }

    /** Reads all TOKENS, then lines of them. */
    static final class Parser {
        private final List<Token> tokens = new ArrayList<>();
        private int at = 0;
        private int depth = 0;
        private final Told told = new Told();

        Parser(String text) {
            int i = 0;
            while (i < text.length()) {
                char c = text.charAt(i);
                if (c == ' ' || c == '\n') {
                    i++;
                    continue;
                }
                int end = i + 1;
                if (letter(c)) {
                    while (end < text.length() && letter(text.charAt(end))) {
                        end++;
                    }
                } else if (digit(c)) {
                    while (end < text.length() && digit(text.charAt(end))) {
                        end++;
                    }
                }
                boolean bad = letter(c) ? end - i > 8
                        : digit(c) ? end - i > 4 || end < text.length() && letter(text.charAt(end))
                        : ";()<>=+-*/%".indexOf(c) < 0;
                tokens.add(new Token(bad ? "?" : text.substring(i, end), i));
                i = end;
            }
            tokens.add(new Token("", text.length()));
        }

        private static boolean letter(char c) {
            return c >= 'a' && c <= 'z';
        }

        private static boolean digit(char c) {
            return c >= '0' && c <= '9';
        }

        private Token peek() {
            Token token = tokens.get(at);
            if (token.text().equals("?")) {
                throw new Fault(1, token.place());
            }
            return token;
        }

        private Fault wrong(int sort) {
            return new Fault(sort, peek().place());
        }

        private boolean is(String text) {
            return peek().text().equals(text);
        }

        private void take(String text) {
            if (!is(text)) {
                throw wrong(2);
            }
            at++;
        }

        private int takeNumber(int most) {
            if (!peek().isNumber()) {
                throw wrong(2);
            }
            int number = Integer.parseInt(peek().text());
            if (number > most) {
                throw wrong(4);
            }
            at++;
            return number;
        }

        private int lordHere() {
            if (!peek().isName()) {
                throw wrong(2);
            }
            int lord = told.names.indexOf(peek().text());
            if (lord < 0) {
                throw wrong(5);
            }
            return lord;
        }

        Told read() {
            Map<String, Integer> lines = new HashMap<>();
            Map<String, Integer> most = Map.of("lord", 8, "flip", 12, "grows", 1, "straw", 1, "draw", 1);
            while (!is("")) {
                String word = peek().text();
                if (!most.containsKey(word) || lines.merge(word, 1, Integer::sum) > most.get(word)) {
                    throw wrong(2);
                }
                at++;
                switch (word) {
                    case "lord" -> readLord();
                    case "flip" -> readFlip();
                    case "grows" -> told.grows = readE();
                    case "straw" -> told.straw = takeNumber(100);
                    default -> told.moment.seed = takeNumber(999);
                }
                take(";");
            }
            return told;
        }

        private void readLord() {
            if (!peek().isName()) {
                throw wrong(2);
            }
            String name = peek().text();
            if (told.names.contains(name)) {
                throw wrong(3);
            }
            at++;
            take("size");
            int size = takeNumber(999);
            int lord = told.names.size();
            Moment moment = told.moment;
            if (lord >= 3) {
                readBirth(lord);
            }
            told.names.add(name);
            moment.sizes.add(size);
            moment.there.add(lord);
            if (lord == 2) {
                moment.add(0, 1, 2);
                moment.add(0, 1, 2);
            }
        }

        private void readBirth(int lord) {
            take("at");
            int a = lordHere();
            at++;
            int b = lordHere();
            at++;
            int c = lordHere();
            TreeSet<Integer> corner = new TreeSet<>(List.of(a));
            corner.add(b);
            corner.add(c);
            if (!told.moment.corners.contains(corner)) {
                throw wrong(3);
            }
            at++;
            told.moment.removeCorner(corner);
            told.moment.add(lord, a, b);
            told.moment.add(lord, a, c);
            told.moment.add(lord, b, c);
        }

        private void readFlip() {
            int a = lordHere();
            at++;
            int b = lordHere();
            if (told.moment.flipped(a, b) == null) {
                throw wrong(3);
            }
            told.moment.flip(a, b);
            at++;
        }

        private Part readE() {
            Part left = readBoth();
            while (is("or")) {
                at++;
                Part one = left;
                Part other = readBoth();
                left = given -> (one.of(given) != 0) | (other.of(given) != 0) ? 1 : 0;
            }
            return left;
        }

        private Part readBoth() {
            Part left = readOne();
            while (is("and")) {
                at++;
                Part one = left;
                Part other = readOne();
                left = given -> (one.of(given) != 0) & (other.of(given) != 0) ? 1 : 0;
            }
            return left;
        }

        private Part readOne() {
            if (is("not")) {
                deeper();
                at++;
                Part one = readOne();
                depth--;
                return given -> one.of(given) == 0 ? 1 : 0;
            }
            Part one = readSum();
            String sign = peek().text();
            if (sign.equals("<") || sign.equals(">") || sign.equals("=")) {
                at++;
                Part other = readSum();
                return given -> {
                    int order = Integer.compare(one.of(given), other.of(given));
                    return (sign.equals("<") ? order < 0 : sign.equals(">") ? order > 0 : order == 0) ? 1 : 0;
                };
            }
            return one;
        }

        private Part readSum() {
            Part left = readTerm();
            while (is("+") || is("-")) {
                boolean plus = is("+");
                at++;
                Part one = left;
                Part other = readTerm();
                left = given -> plus ? one.of(given) + other.of(given) : one.of(given) - other.of(given);
            }
            return left;
        }

        private Part readTerm() {
            Part left = readUnit();
            while (is("*") || is("/") || is("%")) {
                String sign = peek().text();
                at++;
                Part one = left;
                Part other = readUnit();
                left = given -> {
                    int x = one.of(given);
                    int y = other.of(given);
                    return sign.equals("*") ? x * y : y == 0 ? 0 : sign.equals("/") ? x / y : x % y;
                };
            }
            return left;
        }

        private Part readUnit() {
            if (told.units == 30) {
                throw wrong(2);
            }
            told.units++;
            Token token = peek();
            if (token.text().equals("(")) {
                deeper();
                at++;
                Part inner = readE();
                take(")");
                depth--;
                return inner;
            }
            at++;
            if (token.isNumber()) {
                int number = Integer.parseInt(token.text());
                return given -> number;
            }
            switch (token.text()) {
                case "sides":
                    return Given::sides;
                case "size":
                    return Given::size;
                case "near":
                    return Given::near;
                case "lords":
                    return Given::lords;
                case "season":
                    return Given::season;
                default:
                    throw new Fault(2, token.place());
            }
        }

        private void deeper() {
            if (depth == 7) {
                throw wrong(2);
            }
            depth++;
        }
    }

    record Seen(int seasons, int sides, boolean is, int toldAt) {
    }

    private String tape = "";
    private Told told = new Told();
    private int fault = 0;
    private int place = NONE;
    private Moment now = new Moment();
    private final List<Moment> undos = new ArrayList<>();
    private final List<Moment> redos = new ArrayList<>();
    private final Moment[] boxes = new Moment[3];
    private List<Integer> lying = List.of();
    private final List<Seen> seens = new ArrayList<>();
    private final Map<Integer, Integer> untoldAt = new HashMap<>();
    private int time = 0;

    int feed(int a, int b, int c, int d, int e) {
        if (tape.length() + 20 > 1600) {
            return NONE;
        }
        StringBuilder more = new StringBuilder(tape);
        for (int number : new int[] {a, b, c, d, e}) {
            for (int i = 3; i >= 0; i--) {
                more.append((char) (number >>> 8 * i & 255));
            }
        }
        tape = more.toString();
        return tape.length();
    }

    int end(int n) {
        if (n < 0 || n > tape.length()) {
            return NONE;
        }
        tape = tape.substring(0, n);
        return n;
    }

    int shire() {
        String text = tape;
        tape = "";
        try {
            told = new Parser(text).read();
        } catch (Fault found) {
            fault = found.sort;
            place = found.place;
            return NONE;
        }
        fault = 0;
        place = NONE;
        now = told.moment.copy();
        undos.clear();
        redos.clear();
        seens.clear();
        untoldAt.clear();
        lying = List.of();
        Arrays.fill(boxes, null);
        return told.names.size();
    }

    int fault(int what) {
        return what == 0 ? fault : what == 1 ? place : NONE;
    }

    private int lords() {
        return now.sizes.size();
    }

    private boolean told(int lord) {
        return lord >= 0 && lord < lords();
    }

    private boolean two(int lord, int other) {
        return lord != other && now.there.contains(lord) && now.there.contains(other);
    }

    private static int bits(Iterable<Integer> lords) {
        int bits = 0;
        for (int lord : lords) {
            bits += 1 << lord;
        }
        return bits;
    }

    private static TreeSet<Integer> set(int bits) {
        TreeSet<Integer> set = new TreeSet<>();
        for (int lord = 0; lord < 8; lord++) {
            if ((bits & 1 << lord) != 0) {
                set.add(lord);
            }
        }
        return set;
    }

    int lord(int lord, int what) {
        if (!told(lord) || what < 0 || what > 4) {
            return -100;
        }
        boolean there = now.there.contains(lord);
        if (!there) {
            return 0;
        }
        return what == 0 ? 1
                : what == 1 ? now.sizes.get(lord)
                : what == 2 ? now.sides(lord)
                : what == 3 ? bits(now.bordered(lord))
                : now.growth(lord, told.grows);
    }

    int corner(int corner, int which) {
        if (corner < 0 || corner >= now.corners.size() || which < 0 || which > 2) {
            return NONE;
        }
        return new ArrayList<>(now.corners.get(corner)).get(which);
    }

    int wall(int lord, int other) {
        if (!two(lord, other)) {
            return NONE;
        }
        if (!now.border(lord, other)) {
            return 0;
        }
        return 1 + (now.flipped(lord, other) != null ? 2 : 0) + (now.canPop(lord, other) ? 4 : 0);
    }

    private void act() {
        undos.add(now.copy());
        if (undos.size() > 40) {
            undos.remove(0);
        }
        redos.clear();
    }

    int season() {
        if (now.season >= 999) {
            return NONE;
        }
        act();
        TreeSet<Integer> before = new TreeSet<>(now.there);
        now.pass(told.grows, told.straw, true);
        before.removeAll(now.there);
        return bits(before);
    }

    int flip(int lord, int other) {
        int[] ends = now.flipped(lord, other);
        if (ends == null) {
            return NONE;
        }
        act();
        now.flip(lord, other);
        return ends[0] * 8 + ends[1];
    }

    int pop(int lord, int other) {
        if (!now.canPop(lord, other)) {
            return NONE;
        }
        act();
        now.pop(lord, other);
        return now.sizes.get(lord);
    }

    int gift(int lord, int more) {
        if (!now.there.contains(lord) || more < 1 || more > 99 || now.sizes.get(lord) == 999) {
            return NONE;
        }
        act();
        now.sizes.set(lord, Math.min(999, now.sizes.get(lord) + more));
        return now.sizes.get(lord);
    }

    boolean undo() {
        if (undos.isEmpty()) {
            return false;
        }
        redos.add(now);
        now = undos.remove(undos.size() - 1);
        return true;
    }

    boolean redo() {
        if (redos.isEmpty()) {
            return false;
        }
        undos.add(now);
        now = redos.remove(redos.size() - 1);
        return true;
    }

    private Moment behind(Moment from, int n, boolean earnest) {
        Moment ahead = from.copy();
        for (int i = 0; i < n; i++) {
            ahead.pass(told.grows, told.straw, earnest);
        }
        return ahead;
    }

    private static boolean in(int n, int most) {
        return n >= 0 && n <= most;
    }

    int will(int lord, int n, int what) {
        if (!told(lord) || !in(n, 60) || !in(what, 1)) {
            return NONE;
        }
        Moment ahead = behind(now, n, what == 1);
        return ahead.there.contains(lord) ? ahead.sizes.get(lord) : -2;
    }

    int sides(int lord, int n) {
        return told(lord) && in(n, 60) ? behind(now, n, false).sides(lord) : NONE;
    }

    int left(int n) {
        return in(n, 60) ? bits(behind(now, n, false).there) : NONE;
    }

    int ending(int lord) {
        if (!told(lord)) {
            return NONE;
        }
        Moment ahead = now.copy();
        for (int n = 0; n <= 60; n++) {
            if (!ahead.there.contains(lord)) {
                return n;
            }
            ahead = behind(ahead, 1, false);
        }
        return NONE;
    }

    int far(int lord, int other) {
        if (!now.there.contains(lord) || !now.there.contains(other)) {
            return NONE;
        }
        int[][] walls = new int[lords()][lords()];
        for (int a = 0; a < lords(); a++) {
            for (int b = 0; b < lords(); b++) {
                walls[a][b] = a == b ? 0 : now.border(a, b) ? 1 : 99;
            }
        }
        for (int c = 0; c < lords(); c++) {
            for (int a = 0; a < lords(); a++) {
                for (int b = 0; b < lords(); b++) {
                    walls[a][b] = Math.min(walls[a][b], walls[a][c] + walls[c][b]);
                }
            }
        }
        return walls[lord][other] >= 99 ? NONE : walls[lord][other];
    }

    int banners() {
        List<Integer> there = new ArrayList<>(now.there);
        boolean[][] border = new boolean[there.size()][there.size()];
        for (int i = 0; i < there.size(); i++) {
            for (int j = 0; j < there.size(); j++) {
                border[i][j] = now.border(there.get(i), there.get(j));
            }
        }
        for (int colours = 0;; colours++) {
            long all = Math.round(Math.pow(colours, there.size()));
            for (long number = 0; number < all; number++) {
                int[] colour = new int[there.size()];
                long rest = number;
                for (int i = there.size() - 1; i >= 0; i--) {
                    colour[i] = (int) (rest % colours);
                    rest /= colours;
                }
                boolean good = true;
                for (int i = 0; i < there.size() && good; i++) {
                    for (int j = 0; j < i && good; j++) {
                        good = !border[i][j] || colour[i] != colour[j];
                    }
                }
                if (good) {
                    Integer[] answer = new Integer[lords()];
                    Arrays.fill(answer, -1);
                    for (int i = 0; i < there.size(); i++) {
                        answer[there.get(i)] = colour[i];
                    }
                    lying = List.of(answer);
                    return colours;
                }
            }
        }
    }

    private List<int[]> walls() {
        List<int[]> walls = new ArrayList<>();
        for (int a = 0; a < lords(); a++) {
            for (int b = a + 1; b < lords(); b++) {
                if (now.border(a, b)) {
                    walls.add(new int[] {a, b});
                }
            }
        }
        return walls;
    }

    int peace() {
        List<Integer[]> all = new ArrayList<>();
        Integer[] none = new Integer[lords()];
        Arrays.fill(none, 99);
        all.add(none);
        for (int[] wall : walls()) {
            for (Integer[] one : new ArrayList<>(all)) {
                if (one[wall[0]] == 99 && one[wall[1]] == 99) {
                    Integer[] more = one.clone();
                    more[wall[0]] = wall[1];
                    more[wall[1]] = wall[0];
                    all.add(more);
                }
            }
        }
        Integer[] best = Collections.min(all, Comparator.<Integer[]>comparingInt(Oracle::unwed)
                .thenComparing(Arrays::compare));
        int pairs = (lords() - unwed(best)) / 2;
        List<Integer> answer = new ArrayList<>(Arrays.asList(best));
        answer.replaceAll(lord -> lord == 99 ? -1 : lord);
        lying = answer;
        return pairs;
    }

    private static int unwed(Integer[] one) {
        return Collections.frequency(Arrays.asList(one), 99);
    }

    int hermits(int what) {
        if (!in(what, 1)) {
            return NONE;
        }
        int best = 0;
        for (int bits = 255; bits >= 0; bits--) {
            TreeSet<Integer> some = set(bits);
            boolean good = now.there.containsAll(some);
            for (int a : some) {
                for (int b : some) {
                    good &= !now.border(a, b);
                }
            }
            if (good && some.size() >= Integer.bitCount(best)) {
                best = bits;
            }
        }
        return what == 0 ? Integer.bitCount(best) : best;
    }

    int cut(int lord, int other, int what) {
        if (!two(lord, other) || now.border(lord, other) || !in(what, 1)) {
            return NONE;
        }
        int best = 255;
        for (int bits = 255; bits >= 0; bits--) {
            TreeSet<Integer> some = set(bits);
            if (some.contains(lord) || some.contains(other) || !now.there.containsAll(some)
                    || some.size() > Integer.bitCount(best)) {
                continue;
            }
            Set<Integer> come = new HashSet<>(List.of(lord));
            for (boolean grown = true; grown;) {
                grown = false;
                for (int a : new ArrayList<>(come)) {
                    for (int b : now.bordered(a)) {
                        grown |= !some.contains(b) && come.add(b);
                    }
                }
            }
            if (!come.contains(other)) {
                best = bits;
            }
        }
        return what == 0 ? Integer.bitCount(best) : best;
    }

    int ring(int lord) {
        lying = List.of();
        if (!now.there.contains(lord)) {
            return NONE;
        }
        TreeSet<Integer> about = now.bordered(lord);
        List<Integer> order = new ArrayList<>();
        if (!about.isEmpty()) {
            order.add(about.first());
        }
        while (order.size() < about.size()) {
            int latest = order.get(order.size() - 1);
            TreeSet<Integer> next = new TreeSet<>();
            for (TreeSet<Integer> corner : now.cornersWith(lord, latest)) {
                next.addAll(corner);
            }
            next.removeAll(order);
            next.remove(lord);
            order.add(next.first());
        }
        lying = order;
        return order.size();
    }

    int save(int lord, int n) {
        if (!now.there.contains(lord) || !in(n, 30)) {
            return NONE;
        }
        for (int number = 0; number < 64; number++) {
            int a = number / 8;
            int b = number % 8;
            if (b == lord || !now.canPop(a, b)) {
                continue;
            }
            Moment popped = now.copy();
            popped.pop(a, b);
            if (behind(popped, n, false).there.contains(lord)) {
                return number;
            }
        }
        return NONE;
    }

    int boost(int lord, int n, int what) {
        if (!now.there.contains(lord) || !in(n, 30) || !in(what, 1)) {
            return NONE;
        }
        int best = NONE;
        int most = NONE;
        for (int[] wall : walls()) {
            if (now.flipped(wall[0], wall[1]) == null) {
                continue;
            }
            Moment flipped = now.copy();
            flipped.flip(wall[0], wall[1]);
            Moment then = behind(flipped, n, false);
            int size = then.there.contains(lord) ? then.sizes.get(lord) : 0;
            if (size > most) {
                most = size;
                best = wall[0] * 8 + wall[1];
            }
        }
        return what == 0 ? best : most;
    }

    private List<Integer> choices(int lord, int rival) {
        List<Integer> choices = new ArrayList<>(List.of(-1));
        for (int other : now.there) {
            if (other != rival && now.canPop(lord, other)) {
                choices.add(other);
            }
        }
        return choices;
    }

    private int[] gets(int lord, int x, int other, int y) {
        Moment then = now.copy();
        if (x >= 0) {
            then.pop(lord, x);
        }
        if (y >= 0 && then.canPop(other, y)) {
            then.pop(other, y);
        }
        return new int[] {then.sides(lord), then.sides(other)};
    }

    int pricks(int lord, int other) {
        lying = List.of();
        if (!two(lord, other)) {
            return NONE;
        }
        int rests = 0;
        for (int x : choices(lord, other)) {
            for (int y : choices(other, lord)) {
                int[] has = gets(lord, x, other, y);
                boolean rest = true;
                for (int instead : choices(lord, other)) {
                    rest &= gets(lord, instead, other, y)[0] <= has[0];
                }
                for (int instead : choices(other, lord)) {
                    rest &= gets(lord, x, other, instead)[1] <= has[1];
                }
                if (rest && rests++ == 0) {
                    lying = List.of(x, y);
                }
            }
        }
        return rests;
    }

    int thirds() {
        return about(lord -> now.sides(lord) == 3);
    }

    int sleepers() {
        return about(lord -> now.growth(lord, told.grows) == 0);
    }

    private int about(java.util.function.IntPredicate is) {
        int bits = 0;
        for (int lord : now.there) {
            bits += is.test(lord) ? 1 << lord : 0;
        }
        return bits;
    }

    int king() {
        int most = about(lord -> now.there.stream().allMatch(other -> now.sides(other) <= now.sides(lord)));
        return most == 0 ? NONE : Integer.numberOfTrailingZeros(most);
    }

    int restless() {
        return (int) walls().stream().filter(wall -> now.flipped(wall[0], wall[1]) != null).count();
    }

    int brides() {
        return (int) walls().stream().filter(wall -> now.canPop(wall[0], wall[1])).count();
    }

    int acres() {
        return now.there.stream().mapToInt(lord -> now.sizes.get(lord)).sum();
    }

    int law(int n) {
        if (!in(n, 999)) {
            return NONE;
        }
        Moment alike = now.copy();
        alike.sizes.replaceAll(size -> n);
        return (int) alike.there.stream().filter(lord -> alike.growth(lord, told.grows) > 0).count();
    }

    int aunts(int lord, int other) {
        if (!two(lord, other)) {
            return NONE;
        }
        TreeSet<Integer> both = now.bordered(lord);
        both.retainAll(now.bordered(other));
        return both.size();
    }

    int odds(int n, int part) {
        if (!in(n, 4) || !in(part, 1)) {
            return NONE;
        }
        java.math.BigInteger upper = java.math.BigInteger.valueOf(100 - told.straw).pow(n);
        java.math.BigInteger lower = java.math.BigInteger.valueOf(100).pow(n);
        return (part == 0 ? upper : lower).divide(upper.gcd(lower)).intValue();
    }

    int lies(int i) {
        return i >= 0 && i < lying.size() ? lying.get(i) : -2;
    }

    int seen(int seasons, int sides, boolean is) {
        if (!in(seasons, 12) || !in(sides, 8) || seens.size() == 30 || lords() == 0) {
            return NONE;
        }
        seens.add(new Seen(seasons, sides, is, time));
        return seens.size() - 1;
    }

    boolean untell(int seen) {
        return seen >= 0 && seen < seens.size() && untoldAt.putIfAbsent(seen, time) == null;
    }

    int later(int by) {
        if (!in(by, 1000) || time + by > 100000) {
            return NONE;
        }
        time += by;
        return time;
    }

    private int hadSides(int size, int seasons) {
        Moment first = told.moment.copy();
        first.sizes.set(lords() - 1, size);
        return behind(first, seasons, false).sides(lords() - 1);
    }

    private TreeSet<Integer> fitting(int k) {
        TreeSet<Integer> fitting = new TreeSet<>();
        for (int size = 0; size <= 30 && lords() > 0; size++) {
            boolean fits = true;
            for (int i = 0; i < seens.size(); i++) {
                Seen seen = seens.get(i);
                if (seen.toldAt() <= k && !(untoldAt.containsKey(i) && untoldAt.get(i) <= k)) {
                    fits &= (hadSides(size, seen.seasons()) >= seen.sides()) == seen.is();
                }
            }
            if (fits) {
                fitting.add(size);
            }
        }
        return fitting;
    }

    int fits(int k) {
        return fitting(k).size();
    }

    int sure(int what, int k) {
        TreeSet<Integer> fitting = fitting(k);
        if (fitting.isEmpty() || !in(what, 1)) {
            return NONE;
        }
        return what == 0 ? fitting.first() : fitting.last();
    }

    int ask(int what, int k) {
        TreeSet<Integer> fitting = fitting(k);
        if (fitting.isEmpty() || !in(what, 1)) {
            return NONE;
        }
        int best = NONE;
        int fewest = 99;
        for (int seasons = 0; seasons <= 12; seasons++) {
            Map<Integer, Integer> left = new HashMap<>();
            for (int size : fitting) {
                left.merge(hadSides(size, seasons), 1, Integer::sum);
            }
            int most = Collections.max(left.values());
            if (most < fewest) {
                fewest = most;
                best = seasons;
            }
        }
        return what == 0 ? best : fewest;
    }

    int image(int box) {
        if (!in(box, 2)) {
            return NONE;
        }
        boxes[box] = now.copy();
        return now.season;
    }

    int back(int box) {
        if (!in(box, 2) || boxes[box] == null) {
            return NONE;
        }
        now = boxes[box].copy();
        undos.clear();
        redos.clear();
        return now.season;
    }

    int about(int what) {
        int[] all = {lords(), bits(now.there), now.corners.size(), walls().size(), now.season, now.seed,
            undos.size(), redos.size(), seens.size(), time, tape.length(), told.units, lying.size(), told.straw};
        return what >= 0 && what < all.length ? all[what] : NONE;
    }
}
