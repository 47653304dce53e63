import java.util.Random;

/** Runs of made-up calls, the same each time, on FrothShire and on the Oracle. */
public final class OracleTest {
    private static final String[] NAMES = {"feed", "end", "shire", "fault", "lord", "corner", "wall", "season", "flip",
        "pop", "gift", "undo", "redo", "will", "sides", "left", "ending", "far", "banners", "peace", "hermits", "cut",
        "ring", "save", "boost", "pricks", "thirds", "sleepers", "king", "restless", "brides", "acres", "law", "aunts",
        "odds", "lies", "seen", "untell", "later", "fits", "sure", "ask", "image", "back", "about", "text"};

    private final Calls calls = new Calls("OracleTest");
    private final Random random;
    private final Texts texts;
    private FrothShire shire;
    private Oracle oracle;
    private final StringBuilder sofar = new StringBuilder();

    private OracleTest(long seed) {
        random = new Random(seed);
        texts = new Texts(random);
    }

    public static void main(String[] args) {
        int runs = args.length > 0 ? Integer.parseInt(args[0]) : 200;
        long seed = args.length > 1 ? Long.parseLong(args[1]) : 1;
        OracleTest test = new OracleTest(seed);
        for (int run = 0; run < runs; run++) {
            test.run(run);
        }
        test.calls.end();
    }

    private void run(int run) {
        shire = new FrothShire();
        oracle = new Oracle();
        sofar.setLength(0);
        sofar.append("run ").append(run).append(": ");
        int asked = 0;
        if (random.nextInt(10) != 0) {
            asked = text();
        }
        while (asked < 512) {
            String name = NAMES[random.nextInt(NAMES.length)];
            if (name.equals("text") || name.equals("shire")) {
                if (random.nextInt(12) != 0) {
                    continue;
                }
            }
            asked += name.equals("text") ? text() : call(name);
        }
    }

    private int text() {
        String text = texts.any();
        int asked = 2;
        for (int from = 0; from < text.length(); from += 20) {
            int[] five = new int[5];
            for (int i = 0; i < 5; i++) {
                five[i] = Calls.four(text, from + 4 * i);
            }
            same("feed", shire.feed(five[0], five[1], five[2], five[3], five[4]),
                    oracle.feed(five[0], five[1], five[2], five[3], five[4]));
            asked++;
        }
        int fed = shire.about(10);
        int length = fed - (20 - text.length() % 20) % 20;
        same("end", shire.end(length), oracle.end(length));
        same("shire of " + text, shire.shire(), oracle.shire());
        same("fault 0 of " + text, shire.fault(0), oracle.fault(0));
        same("fault 1 of " + text, shire.fault(1), oracle.fault(1));
        return asked + 3;
    }

    private void same(String call, int got, int want) {
        sofar.append(call).append(' ').append(want).append("; ");
        if (got != want) {
            System.out.println(sofar);
        }
        calls.due(call, got, want);
    }

    private void same(String call, boolean got, boolean want) {
        same(call, got ? 1 : 0, want ? 1 : 0);
    }

    /** A LORD, or nearly one. */
    private int lord() {
        int lords = oracle.about(0);
        return random.nextInt(15) == 0 ? random.nextInt(12) - 2 : lords == 0 ? 0 : random.nextInt(lords);
    }

    private int upTo(int most) {
        return random.nextInt(20) == 0 ? new int[] {-1, most + 1, 0, most, Integer.MIN_VALUE, Integer.MAX_VALUE}[
                random.nextInt(6)] : random.nextInt(most + 1);
    }

    private int call(String name) {
        int a = lord();
        int b = lord();
        int n = upTo(60);
        int m = upTo(30);
        int what = upTo(1);
        String one = name + "(" + a + ")";
        String two = name + "(" + a + ", " + b + ")";
        switch (name) {
            case "feed" -> {
                if (random.nextInt(20) == 0) {
                    same(name, shire.feed(a, b, n, m, what), oracle.feed(a, b, n, m, what));
                }
            }
            case "end" -> same(name, shire.end(n), oracle.end(n));
            case "shire" -> same(name, shire.shire(), oracle.shire());
            case "fault" -> same(name, shire.fault(what), oracle.fault(what));
            case "lord" -> {
                int of = upTo(4);
                same(one + of, shire.lord(a, of), oracle.lord(a, of));
            }
            case "corner" -> {
                int corner = upTo(12);
                int which = upTo(2);
                same(name + corner + " " + which, shire.corner(corner, which), oracle.corner(corner, which));
            }
            case "wall" -> same(two, shire.wall(a, b), oracle.wall(a, b));
            case "season" -> same(name, shire.season(), oracle.season());
            case "flip" -> same(two, shire.flip(a, b), oracle.flip(a, b));
            case "pop" -> {
                if (random.nextInt(3) == 0) {
                    same(two, shire.pop(a, b), oracle.pop(a, b));
                }
            }
            case "gift" -> {
                int more = upTo(99);
                same(one + more, shire.gift(a, more), oracle.gift(a, more));
            }
            case "undo" -> same(name, shire.undo(), oracle.undo());
            case "redo" -> same(name, shire.redo(), oracle.redo());
            default -> callAhead(name, a, b);
        }
        return 1;
    }

    private void callAhead(String name, int a, int b) {
        int n = upTo(60);
        int m = upTo(30);
        int what = upTo(1);
        String two = name + "(" + a + ", " + b + ")";
        String ahead = name + "(" + a + ", " + n + "), " + what;
        String plan = name + "(" + a + ", " + m + "), " + what;
        switch (name) {
            case "will" -> same(ahead, shire.will(a, n, what), oracle.will(a, n, what));
            case "sides" -> same(ahead, shire.sides(a, n), oracle.sides(a, n));
            case "left" -> same(ahead, shire.left(n), oracle.left(n));
            case "ending" -> same(ahead, shire.ending(a), oracle.ending(a));
            case "far" -> same(two, shire.far(a, b), oracle.far(a, b));
            case "banners" -> same(name, shire.banners(), oracle.banners());
            case "peace" -> same(name, shire.peace(), oracle.peace());
            case "hermits" -> same(name + what, shire.hermits(what), oracle.hermits(what));
            case "cut" -> same(two + what, shire.cut(a, b, what), oracle.cut(a, b, what));
            case "ring" -> same(two, shire.ring(a), oracle.ring(a));
            case "save" -> same(plan, shire.save(a, m), oracle.save(a, m));
            case "boost" -> same(plan, shire.boost(a, m, what), oracle.boost(a, m, what));
            case "pricks" -> same(two, shire.pricks(a, b), oracle.pricks(a, b));
            case "thirds" -> same(name, shire.thirds(), oracle.thirds());
            case "sleepers" -> same(name, shire.sleepers(), oracle.sleepers());
            case "king" -> same(name, shire.king(), oracle.king());
            case "restless" -> same(name, shire.restless(), oracle.restless());
            case "brides" -> same(name, shire.brides(), oracle.brides());
            case "acres" -> same(name, shire.acres(), oracle.acres());
            default -> callSeen(name, a, b);
        }
        for (int i = -1; i < 9; i++) {
            same("lies " + i, shire.lies(i), oracle.lies(i));
        }
    }

    private void callSeen(String name, int a, int b) {
        int what = upTo(1);
        int k = oracle.about(9) + random.nextInt(5) - 3;
        switch (name) {
            case "law" -> {
                int n = upTo(999);
                same(name + n, shire.law(n), oracle.law(n));
            }
            case "aunts" -> same(name, shire.aunts(a, b), oracle.aunts(a, b));
            case "odds" -> {
                int n = upTo(4);
                same(name + n + what, shire.odds(n, what), oracle.odds(n, what));
            }
            case "lies" -> same(name, shire.lies(a), oracle.lies(a));
            case "seen" -> {
                if (random.nextInt(2) == 0) {
                    int seasons = upTo(12);
                    int sides = random.nextInt(3) == 0 ? upTo(8) : 1 + random.nextInt(4);
                    boolean is = random.nextBoolean();
                    same(name + seasons + sides + is, shire.seen(seasons, sides, is), oracle.seen(seasons, sides, is));
                }
            }
            case "untell" -> {
                int seen = random.nextInt(20) == 0 ? upTo(30) : random.nextInt(Math.max(1, oracle.about(8)));
                same(name + seen, shire.untell(seen), oracle.untell(seen));
            }
            case "later" -> {
                int by = random.nextInt(4) == 0 ? upTo(1000) : random.nextInt(3);
                same(name + by, shire.later(by), oracle.later(by));
            }
            case "fits" -> same(name + k, shire.fits(k), oracle.fits(k));
            case "sure" -> same(name + what + k, shire.sure(what, k), oracle.sure(what, k));
            case "ask" -> same(name + what + k, shire.ask(what, k), oracle.ask(what, k));
            case "image" -> {
                int box = upTo(2);
                same(name + box, shire.image(box), oracle.image(box));
            }
            case "back" -> {
                int box = upTo(2);
                same(name + box, shire.back(box), oracle.back(box));
            }
            default -> {
                for (int i = -1; i < 15; i++) {
                    same("about " + i, shire.about(i), oracle.about(i));
                }
            }
        }
    }
}
