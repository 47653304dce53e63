/**
 * A shire whose lordships are bubbles: told in a text, it goes through seasons, is flipped, popped and
 * undone, and answers what lies ahead of it. Lords are vertices, corners the triangles of a sphere.
 */
public final class FrothShire {
    public static final int NONE = -1;

    private static final int TAPE_BYTES = 1600;
    private static final int FED_BYTES = 20;
    private static final int MOST_LORDS = 8;
    private static final int MOST_CORNERS = 12;
    private static final int FIRST_LORDS = 3;
    private static final int MOST_FLIPS = 12;
    private static final int MOST_SIZE = 999;
    private static final int MOST_STRAW = 100;
    private static final int MOST_DRAW = 999;
    private static final int MOST_GROWTH = 99;
    private static final int MOST_UNITS = 30;
    private static final int MOST_NESTING = 7;
    private static final int LAST_SEASON = 999;
    private static final int FARTHEST = 60;
    private static final int PLAN_FARTHEST = 30;
    private static final int MOST_ACTS = 40;
    private static final int BOXES = 3;
    private static final int MOST_GIFT = 99;
    private static final int MOST_STEP = 1000;
    private static final int MOST_TIME = 100000;
    private static final int MOST_ODDS = 4;
    private static final int MOST_SEEN = 30;
    private static final int SEEN_SEASONS = 13;
    private static final int SEEN_SIZES = 31;
    private static final int SEEN_SIDES = 9;
    private static final int GONE = -2;
    private static final int NO_NUMBER_LIES = -2;
    private static final int NO_SUCH_LORD = -100;

    private static final int NO_TOKEN = 1;
    private static final int CANT_STAND = 2;
    private static final int CANT_BE_THERE = 3;
    private static final int NUMBER_CANT_BE = 4;
    private static final int NO_LORD_HAS_IT = 5;

    private final Reader reader = new Reader();
    private Telling told = new Telling();
    private final Froth now = new Froth();
    private final Froth ahead = new Froth();
    private final History history = new History();
    private final int[] boxRows = new int[BOXES * Froth.ROW];
    private int boxBits = 0;
    private final Puzzles puzzles = new Puzzles();
    private final Duel duel = new Duel();
    private final Memory memory = new Memory();
    private int time = 0;
    private final int[] lying = new int[MOST_LORDS];
    private int lyingCount = 0;

    /** Rows of noughts are the empty SHIRE, so nothing is left to be done. */
    public FrothShire() {
    }

    // ---- the text

    public int feed(int a, int b, int c, int d, int e) {
        if (reader.length + FED_BYTES > TAPE_BYTES) {
            return NONE;
        }
        reader.putBytes(a);
        reader.putBytes(b);
        reader.putBytes(c);
        reader.putBytes(d);
        reader.putBytes(e);
        return reader.length;
    }

    public int end(int n) {
        if (n < 0 || n > reader.length) {
            return NONE;
        }
        reader.length = n;
        return n;
    }

    public int shire() {
        reader.read();
        reader.length = 0;
        if (reader.foundFault != 0) {
            return NONE;
        }
        Telling spare = told;
        told = reader.into;
        reader.into = spare;
        now.copyFrom(told.froth);
        history.startFrom(now);
        memory.forget();
        boxBits = 0;
        lyingCount = 0;
        return now.lords;
    }

    public int fault(int what) {
        if (what == 0) {
            return reader.foundFault;
        }
        return what == 1 ? reader.foundPlace : NONE;
    }

    // ---- what is now

    public int lord(int lord, int what) {
        if (!now.isTold(lord)) {
            return NO_SUCH_LORD;
        }
        switch (what) {
            case 0:
                return now.isThere(lord) ? 1 : 0;
            case 1:
                return now.size[lord];
            case 2:
                return now.sideCount[lord];
            case 3:
                return now.around[lord];
            case 4:
                return now.isThere(lord) ? now.growthOf(lord, told.grows) : 0;
            default:
                return NO_SUCH_LORD;
        }
    }

    public int corner(int corner, int which) {
        if (corner < 0 || corner >= now.corners || which < 0 || which > 2) {
            return NONE;
        }
        int bits = now.cornerBits[corner];
        for (int i = 0; i < which; i++) {
            bits &= bits - 1;
        }
        return lowest(bits);
    }

    public int wall(int lord, int other) {
        if (!areTwo(lord, other)) {
            return NONE;
        }
        if (!now.meets(lord, other)) {
            return 0;
        }
        int flipped = now.flippedEnds(lord, other) != 0 ? 2 : 0;
        int popped = now.canMerge(lord, other) ? 4 : 0;
        return 1 + flipped + popped;
    }

    public int thirds() {
        int bits = 0;
        for (int lord = 0; lord < now.lords; lord++) {
            if (now.sideCount[lord] == 3) {
                bits |= 1 << lord;
            }
        }
        return bits;
    }

    public int sleepers() {
        int bits = 0;
        for (int lord = 0; lord < now.lords; lord++) {
            if (now.isThere(lord) && now.growthOf(lord, told.grows) == 0) {
                bits |= 1 << lord;
            }
        }
        return bits;
    }

    public int king() {
        int best = NONE;
        for (int lord = 0; lord < now.lords; lord++) {
            if (now.isThere(lord) && (best == NONE || now.sideCount[lord] > now.sideCount[best])) {
                best = lord;
            }
        }
        return best;
    }

    public int restless() {
        int count = 0;
        for (int a = 0; a < now.lords; a++) {
            for (int b = a + 1; b < now.lords; b++) {
                if (now.flippedEnds(a, b) != 0) {
                    count++;
                }
            }
        }
        return count;
    }

    public int brides() {
        int count = 0;
        for (int a = 0; a < now.lords; a++) {
            for (int b = a + 1; b < now.lords; b++) {
                if (now.canMerge(a, b)) {
                    count++;
                }
            }
        }
        return count;
    }

    public int acres() {
        int sum = 0;
        for (int lord = 0; lord < now.lords; lord++) {
            sum += now.size[lord];
        }
        return sum;
    }

    public int law(int n) {
        if (n < 0 || n > MOST_SIZE) {
            return NONE;
        }
        int count = 0;
        for (int lord = 0; lord < now.lords; lord++) {
            int near = n * Integer.bitCount(now.around[lord]);
            if (now.isThere(lord)
                    && told.grows.growth(now.sideCount[lord], n, near, now.howManyThere(), now.seasons) > 0) {
                count++;
            }
        }
        return count;
    }

    public int aunts(int lord, int other) {
        if (!areTwo(lord, other)) {
            return NONE;
        }
        return Integer.bitCount(now.around[lord] & now.around[other]);
    }

    private boolean areTwo(int lord, int other) {
        return lord != other && now.isThere(lord) && now.isThere(other);
    }

    // ---- ACTS

    public int season() {
        if (now.seasons >= LAST_SEASON) {
            return NONE;
        }
        int before = now.thereBits;
        now.passSeason(told.grows, told.straw);
        history.keep(now);
        return before & ~now.thereBits;
    }

    public int flip(int lord, int other) {
        int ends = now.turnWall(lord, other);
        if (ends == 0) {
            return NONE;
        }
        history.keep(now);
        return lowest(ends) * MOST_LORDS + lowest(ends & (ends - 1));
    }

    public int pop(int lord, int other) {
        if (!now.merge(lord, other)) {
            return NONE;
        }
        history.keep(now);
        return now.size[lord];
    }

    public int gift(int lord, int more) {
        if (!now.isThere(lord) || more < 1 || more > MOST_GIFT || now.size[lord] >= MOST_SIZE) {
            return NONE;
        }
        now.size[lord] = Math.min(MOST_SIZE, now.size[lord] + more);
        history.keep(now);
        return now.size[lord];
    }

    public boolean undo() {
        return history.stepBack(now);
    }

    public boolean redo() {
        return history.stepOn(now);
    }

    public int image(int box) {
        if (box < 0 || box >= BOXES) {
            return NONE;
        }
        now.writeTo(boxRows, box * Froth.ROW);
        boxBits |= 1 << box;
        return now.seasons;
    }

    public int back(int box) {
        if (box < 0 || box >= BOXES || (boxBits >> box & 1) == 0) {
            return NONE;
        }
        now.readFrom(boxRows, box * Froth.ROW);
        history.startFrom(now);
        return now.seasons;
    }

    // ---- what lies ahead

    public int will(int lord, int n, int what) {
        if (!now.isTold(lord) || n < 0 || n > FARTHEST || what < 0 || what > 1) {
            return NONE;
        }
        lookAhead(n, what == 1 ? told.straw : 0);
        return ahead.isThere(lord) ? ahead.size[lord] : GONE;
    }

    public int sides(int lord, int n) {
        if (!now.isTold(lord) || n < 0 || n > FARTHEST) {
            return NONE;
        }
        lookAhead(n, 0);
        return ahead.sideCount[lord];
    }

    public int left(int n) {
        if (n < 0 || n > FARTHEST) {
            return NONE;
        }
        lookAhead(n, 0);
        return ahead.thereBits;
    }

    private void lookAhead(int n, int straw) {
        ahead.copyFrom(now);
        ahead.passSeasons(n, told.grows, straw);
    }

    public int ending(int lord) {
        if (!now.isTold(lord)) {
            return NONE;
        }
        ahead.copyFrom(now);
        for (int n = 0; n <= FARTHEST; n++) {
            if (!ahead.isThere(lord)) {
                return n;
            }
            ahead.passSeason(told.grows, 0);
        }
        return NONE;
    }

    public int save(int lord, int n) {
        if (!now.isThere(lord) || n < 0 || n > PLAN_FARTHEST) {
            return NONE;
        }
        for (int a = 0; a < now.lords; a++) {
            for (int b = 0; b < now.lords; b++) {
                if (b != lord && now.canMerge(a, b) && isSavedBy(lord, n, a, b)) {
                    return a * MOST_LORDS + b;
                }
            }
        }
        return NONE;
    }

    private boolean isSavedBy(int lord, int n, int a, int b) {
        ahead.copyFrom(now);
        ahead.merge(a, b);
        ahead.passSeasons(n, told.grows, 0);
        return ahead.isThere(lord);
    }

    public int boost(int lord, int n, int what) {
        if (!now.isThere(lord) || n < 0 || n > PLAN_FARTHEST || what < 0 || what > 1) {
            return NONE;
        }
        int bestWall = NONE;
        int bestSize = NONE;
        for (int a = 0; a < now.lords; a++) {
            for (int b = a + 1; b < now.lords; b++) {
                int size = sizeBehindFlip(lord, n, a, b);
                if (size > bestSize) {
                    bestSize = size;
                    bestWall = a * MOST_LORDS + b;
                }
            }
        }
        return what == 0 ? bestWall : bestSize;
    }

    /** NONE if the WALL can't be FLIPPED; a LORD who is gone has SIZE 0. */
    private int sizeBehindFlip(int lord, int n, int a, int b) {
        if (now.flippedEnds(a, b) == 0) {
            return NONE;
        }
        ahead.copyFrom(now);
        ahead.turnWall(a, b);
        ahead.passSeasons(n, told.grows, 0);
        return ahead.size[lord];
    }

    public int pricks(int lord, int other) {
        lyingCount = 0;
        if (!areTwo(lord, other)) {
            return NONE;
        }
        int rests = duel.countRests(now, ahead, lord, other);
        if (rests > 0) {
            lying[0] = duel.firstTakes;
            lying[1] = duel.otherTakes;
            lyingCount = 2;
        }
        return rests;
    }

    public int odds(int n, int part) {
        if (n < 0 || n > MOST_ODDS || part < 0 || part > 1) {
            return NONE;
        }
        int upper = 1;
        int lower = 1;
        for (int i = 0; i < n; i++) {
            upper *= MOST_STRAW - told.straw;
            lower *= MOST_STRAW;
        }
        int shared = commonDivisor(lower, upper);
        if (shared == 0) {
            return NONE;
        }
        return part == 0 ? upper / shared : lower / shared;
    }

    private static int commonDivisor(int a, int b) {
        int more = a;
        int less = b;
        for (int i = 0; i < 64 && less != 0; i++) {
            int rest = more % less;
            more = less;
            less = rest;
        }
        return more;
    }

    // ---- puzzles

    public int far(int lord, int other) {
        if (!now.isThere(lord) || !now.isThere(other)) {
            return NONE;
        }
        return Puzzles.distance(now, lord, other);
    }

    public int banners() {
        int colours = puzzles.fewestColours(now);
        layDown(now.lords);
        return colours;
    }

    public int peace() {
        int walls = puzzles.mostPairs(now);
        layDown(now.lords);
        return walls;
    }

    public int hermits(int what) {
        if (what < 0 || what > 1) {
            return NONE;
        }
        int set = Puzzles.mostApart(now);
        return what == 0 ? Integer.bitCount(set) : set;
    }

    public int cut(int lord, int other, int what) {
        if (!areTwo(lord, other) || now.meets(lord, other) || what < 0 || what > 1) {
            return NONE;
        }
        int set = Puzzles.fewestBetween(now, lord, other);
        return what == 0 ? Integer.bitCount(set) : set;
    }

    public int ring(int lord) {
        lyingCount = 0;
        if (!now.isThere(lord)) {
            return NONE;
        }
        int count = puzzles.neighboursInOrder(now, lord);
        layDown(count);
        return count;
    }

    private void layDown(int count) {
        lyingCount = Math.min(count, lying.length);
        for (int i = 0; i < lyingCount; i++) {
            lying[i] = puzzles.answer[i];
        }
    }

    public int lies(int i) {
        return i >= 0 && i < lyingCount ? lying[i] : NO_NUMBER_LIES;
    }

    // ---- what is SEEN

    public int seen(int seasons, int sides, boolean is) {
        boolean can = seasons >= 0 && seasons < SEEN_SEASONS && sides >= 0 && sides < SEEN_SIDES;
        if (!can || told.froth.lords == 0) {
            return NONE;
        }
        return memory.tell(seasons, sides, is, time);
    }

    public boolean untell(int seen) {
        return memory.takeBack(seen, time);
    }

    public int later(int by) {
        if (by < 0 || by > MOST_STEP || time + by > MOST_TIME) {
            return NONE;
        }
        time += by;
        return time;
    }

    public int fits(int k) {
        return memory.findFits(k, told, ahead);
    }

    public int sure(int what, int k) {
        if (what < 0 || what > 1 || memory.findFits(k, told, ahead) == 0) {
            return NONE;
        }
        return what == 0 ? memory.leastFit() : memory.greatestFit();
    }

    public int ask(int what, int k) {
        if (what < 0 || what > 1 || memory.findFits(k, told, ahead) == 0) {
            return NONE;
        }
        int best = 0;
        int fewest = memory.mostLeftBehind(0);
        for (int seasons = 1; seasons < SEEN_SEASONS; seasons++) {
            int left = memory.mostLeftBehind(seasons);
            if (left < fewest) {
                fewest = left;
                best = seasons;
            }
        }
        return what == 0 ? best : fewest;
    }

    public int about(int what) {
        switch (what) {
            case 0:
                return now.lords;
            case 1:
                return now.thereBits;
            case 2:
                return now.corners;
            case 3:
                return now.howManyWalls();
            case 4:
                return now.seasons;
            case 5:
                return now.seed;
            case 6:
                return history.undoable;
            case 7:
                return history.redoable;
            case 8:
                return memory.count;
            case 9:
                return time;
            case 10:
                return reader.length;
            case 11:
                return told.grows.units;
            case 12:
                return lyingCount;
            case 13:
                return told.straw;
            default:
                return NONE;
        }
    }

    /** The least LORD of a set as bits; NONE of an empty one. */
    private static int lowest(int bits) {
        for (int lord = 0; lord < MOST_LORDS; lord++) {
            if ((bits >> lord & 1) == 1) {
                return lord;
            }
        }
        return NONE;
    }

    /** The shire at one moment. CORNERS are sets as bits of three LORDS, held in their order. */
    private static final class Froth {
        /** How long a row of numbers is that holds all that can change. */
        static final int ROW = 4 + MOST_LORDS + MOST_CORNERS;

        int lords = 0;
        int thereBits = 0;
        int seasons = 0;
        int seed = 0;
        int corners = 0;
        final int[] size = new int[MOST_LORDS];
        final int[] cornerBits = new int[MOST_CORNERS];
        // These follow from the CORNERS; they are held since nearly every question needs them.
        final int[] around = new int[MOST_LORDS];
        final int[] sideCount = new int[MOST_LORDS];
        final int[] growth = new int[MOST_LORDS];

        void empty() {
            lords = 0;
            thereBits = 0;
            seasons = 0;
            seed = 0;
            corners = 0;
            for (int lord = 0; lord < MOST_LORDS; lord++) {
                size[lord] = 0;
            }
            settle();
        }

        void copyFrom(Froth other) {
            lords = other.lords;
            thereBits = other.thereBits;
            seasons = other.seasons;
            seed = other.seed;
            corners = other.corners;
            System.arraycopy(other.cornerBits, 0, cornerBits, 0, MOST_CORNERS);
            System.arraycopy(other.size, 0, size, 0, MOST_LORDS);
            System.arraycopy(other.around, 0, around, 0, MOST_LORDS);
            System.arraycopy(other.sideCount, 0, sideCount, 0, MOST_LORDS);
        }

        void writeTo(int[] row, int from) {
            if (from < 0 || from + ROW > row.length) {
                return;
            }
            row[from] = thereBits;
            row[from + 1] = seasons;
            row[from + 2] = seed;
            row[from + 3] = corners;
            System.arraycopy(size, 0, row, from + 4, MOST_LORDS);
            System.arraycopy(cornerBits, 0, row, from + 4 + MOST_LORDS, MOST_CORNERS);
        }

        void readFrom(int[] row, int from) {
            if (from < 0 || from + ROW > row.length) {
                return;
            }
            thereBits = row[from];
            seasons = row[from + 1];
            seed = row[from + 2];
            corners = row[from + 3];
            System.arraycopy(row, from + 4, size, 0, MOST_LORDS);
            System.arraycopy(row, from + 4 + MOST_LORDS, cornerBits, 0, MOST_CORNERS);
            settle();
        }

        boolean isTold(int lord) {
            return lord >= 0 && lord < lords;
        }

        boolean isThere(int lord) {
            return lord >= 0 && lord < lords && (thereBits >> lord & 1) == 1;
        }

        int howManyThere() {
            return Integer.bitCount(thereBits);
        }

        boolean meets(int a, int b) {
            return a >= 0 && a < lords && b >= 0 && b < lords && (around[a] >> b & 1) == 1;
        }

        int howManyWalls() {
            int ends = 0;
            for (int lord = 0; lord < lords; lord++) {
                ends += Integer.bitCount(around[lord]);
            }
            return ends / 2;
        }

        boolean hasCorner(int bits) {
            for (int i = 0; i < corners; i++) {
                if (cornerBits[i] == bits) {
                    return true;
                }
            }
            return false;
        }

        /** A LORD is born; from the fourth on at a CORNER, which is there. */
        void bear(int told, int atCorner) {
            if (lords >= MOST_LORDS) {
                return;
            }
            int lord = lords;
            lords++;
            thereBits |= 1 << lord;
            size[lord] = told;
            if (lords == FIRST_LORDS) {
                addCorner(thereBits);
                addCorner(thereBits);
            } else if (lords > FIRST_LORDS) {
                dropOneCorner(atCorner);
                for (int old = 0; old < lord; old++) {
                    if ((atCorner >> old & 1) == 1) {
                        addCorner(atCorner & ~(1 << old) | 1 << lord);
                    }
                }
            }
            settle();
        }

        private void addCorner(int bits) {
            if (corners < MOST_CORNERS) {
                cornerBits[corners] = bits;
                corners++;
            }
        }

        /** Only one of two like CORNERS goes: the other one lies on the other side. */
        private void dropOneCorner(int bits) {
            for (int i = 0; i < corners; i++) {
                if (cornerBits[i] == bits) {
                    corners--;
                    cornerBits[i] = cornerBits[corners];
                    return;
                }
            }
        }

        private void dropCornersOf(int bits) {
            int kept = 0;
            for (int i = 0; i < corners; i++) {
                if ((cornerBits[i] & bits) != bits) {
                    cornerBits[kept] = cornerBits[i];
                    kept++;
                }
            }
            corners = kept;
        }

        /** Puts the CORNERS in order again and finds what follows from them. */
        private void settle() {
            for (int i = 1; i < corners; i++) {
                int moved = cornerBits[i];
                int to = i;
                for (int j = i - 1; j >= 0 && comesBefore(moved, cornerBits[j]); j--) {
                    cornerBits[j + 1] = cornerBits[j];
                    to = j;
                }
                cornerBits[to] = moved;
            }
            for (int lord = 0; lord < MOST_LORDS; lord++) {
                int bit = 1 << lord;
                int met = 0;
                int count = 0;
                for (int i = 0; i < corners; i++) {
                    if ((cornerBits[i] & bit) != 0) {
                        met |= cornerBits[i];
                        count++;
                    }
                }
                around[lord] = met & ~bit;
                sideCount[lord] = count;
            }
        }

        /** Of two sets that one is first in order that has the least LORD who is not in both. */
        private static boolean comesBefore(int bits, int others) {
            int unlike = bits ^ others;
            return (bits & unlike & -unlike) != 0;
        }

        /** As bits: between whom the WALL of a and b is when it is FLIPPED; 0 if it can't be. */
        int flippedEnds(int a, int b) {
            if (!meets(a, b) || sideCount[a] < 4 || sideCount[b] < 4) {
                return 0;
            }
            int pair = 1 << a | 1 << b;
            int ends = 0;
            int count = 0;
            for (int i = 0; i < corners; i++) {
                if ((cornerBits[i] & pair) == pair) {
                    ends |= cornerBits[i] & ~pair;
                    count++;
                }
            }
            if (count != 2 || Integer.bitCount(ends) != 2) {
                return 0;
            }
            return meets(lowest(ends), lowest(ends & (ends - 1))) ? 0 : ends;
        }

        /** Flips a WALL: between whom it is then, as bits; 0, doing nothing, if it can't be. */
        int turnWall(int a, int b) {
            int ends = flippedEnds(a, b);
            if (ends == 0) {
                return 0;
            }
            dropCornersOf(1 << a | 1 << b);
            addCorner(ends | 1 << a);
            addCorner(ends | 1 << b);
            settle();
            return ends;
        }

        boolean canMerge(int a, int b) {
            return meets(a, b) && howManyThere() > FIRST_LORDS
                    && Integer.bitCount(around[a] & around[b]) == 2;
        }

        /** Pops the WALL of a and b, a staying; false, doing nothing, if it can't be. */
        boolean merge(int a, int b) {
            if (!canMerge(a, b)) {
                return false;
            }
            dropCornersOf(1 << a | 1 << b);
            for (int i = 0; i < corners; i++) {
                if ((cornerBits[i] >> b & 1) == 1) {
                    cornerBits[i] = cornerBits[i] & ~(1 << b) | 1 << a;
                }
            }
            size[a] = Math.min(MOST_SIZE, size[a] + size[b]);
            leave(b);
            settle();
            return true;
        }

        private void leave(int lord) {
            thereBits &= ~(1 << lord);
            size[lord] = 0;
        }

        int growthOf(int lord, Formula grows) {
            if (!isTold(lord)) {
                return 0;
            }
            int near = 0;
            for (int other = 0; other < lords; other++) {
                if (meets(lord, other)) {
                    near += size[other];
                }
            }
            return grows.growth(sideCount[lord], size[lord], near, howManyThere(), seasons);
        }

        void passSeasons(int n, Formula grows, int straw) {
            for (int i = 0; i < n; i++) {
                passSeason(grows, straw);
            }
        }

        /** A SEASON; with straw 0 no straw falls, and the SEED then matters to nobody. */
        void passSeason(Formula grows, int straw) {
            for (int lord = 0; lord < lords; lord++) {
                growth[lord] = isThere(lord) ? growthOf(lord, grows) : 0;
            }
            for (int lord = 0; lord < lords; lord++) {
                size[lord] = Math.max(0, Math.min(MOST_SIZE, size[lord] + growth[lord]));
            }
            for (int lord = 0; lord < lords; lord++) {
                if (isThere(lord) && size[lord] == 0) {
                    wither(lord);
                }
            }
            seed = (seed * 137 + 71) % 1000;
            if (seed % 100 < straw && corners > 0) {
                int bits = cornerBits[seed % corners];
                turnWall(lowest(bits), lowest(bits & (bits - 1)));
            }
            seasons++;
        }

        /** A LORD of no SIZE vanishes, or loses a side to the least LORD with whom that can be. */
        private void wither(int lord) {
            if (sideCount[lord] == 3 && howManyThere() > FIRST_LORDS) {
                dropCornersOf(1 << lord);
                addCorner(around[lord]);
                leave(lord);
                settle();
                return;
            }
            for (int other = 0; other < lords; other++) {
                if (turnWall(lord, other) != 0) {
                    return;
                }
            }
        }
    }

    /** How one grows: a row of numbers (0 and more) and OPS (below 0), each OP behind what it is of. */
    private static final class Formula {
        static final int SIDES = -1;
        static final int SIZE = -2;
        static final int NEAR = -3;
        static final int LORDS = -4;
        static final int SEASON = -5;
        static final int NOT = -6;
        static final int OR = -7;
        static final int AND = -8;
        static final int LESS = -9;
        static final int MORE = -10;
        static final int SAME = -11;
        static final int PLUS = -12;
        static final int MINUS = -13;
        static final int TIMES = -14;
        static final int OVER = -15;
        static final int REST = -16;

        // Each unit may stand behind as many nots as may be nested, and behind one OP of two.
        final int[] code = new int[MOST_UNITS * (MOST_NESTING + 2)];
        final int[] stack = new int[MOST_UNITS + 1];
        final int[] given = new int[6];
        int length = 0;
        int units = 0;

        void empty() {
            length = 0;
            units = 0;
        }

        void put(int op) {
            if (length < code.length) {
                code[length] = op;
                length++;
            }
        }

        int growth(int sides, int size, int near, int lords, int season) {
            if (length == 0) {
                return sides - 4;
            }
            given[-SIDES] = sides;
            given[-SIZE] = size;
            given[-NEAR] = near;
            given[-LORDS] = lords;
            given[-SEASON] = season;
            return Math.max(-MOST_GROWTH, Math.min(MOST_GROWTH, run()));
        }

        private int run() {
            int top = 0;
            for (int i = 0; i < length; i++) {
                int op = code[i];
                if (op == NOT && top > 0) {
                    stack[top - 1] = stack[top - 1] == 0 ? 1 : 0;
                } else if (op < NOT && top > 1) {
                    top--;
                    stack[top - 1] = joined(op, stack[top - 1], stack[top]);
                } else if (op > NOT && top < stack.length) {
                    stack[top] = op >= 0 ? op : given[-op];
                    top++;
                }
            }
            return top > 0 ? stack[0] : 0;
        }

        private static int joined(int op, int x, int y) {
            switch (op) {
                case OR:
                    return x != 0 || y != 0 ? 1 : 0;
                case AND:
                    return x != 0 && y != 0 ? 1 : 0;
                case LESS:
                    return x < y ? 1 : 0;
                case MORE:
                    return x > y ? 1 : 0;
                case SAME:
                    return x == y ? 1 : 0;
                case PLUS:
                    return x + y;
                case MINUS:
                    return x - y;
                case TIMES:
                    return x * y;
                case OVER:
                    return y == 0 ? 0 : x / y;
                case REST:
                    return y == 0 ? 0 : x % y;
                default:
                    return 0;
            }
        }
    }

    /** All that a text tells. */
    private static final class Telling {
        final Froth froth = new Froth();
        final Formula grows = new Formula();
        final long[] names = new long[MOST_LORDS];
        int straw = 0;
        int flips = 0;
        boolean growsTold = false;
        boolean strawTold = false;
        boolean drawTold = false;

        void empty() {
            froth.empty();
            grows.empty();
            straw = 0;
            flips = 0;
            growsTold = false;
            strawTold = false;
            drawTold = false;
        }

        void addLord(long name, int size, int atCorner) {
            if (froth.lords < MOST_LORDS) {
                names[froth.lords] = name;
                froth.bear(size, atCorner);
            }
        }

        int lordNamed(long name) {
            for (int lord = 0; lord < froth.lords; lord++) {
                if (names[lord] == name) {
                    return lord;
                }
            }
            return NONE;
        }
    }

    /**
     * Reads a text, one TOKEN ahead of what is understood. What is wrong with a TOKEN is said before
     * the next one is looked at, so the FAULT that is said first is the first by its place.
     */
    private static final class Reader {
        // Each has eight places, with blanks behind it.
        private static final String WORDS =
                "lord    flip    grows   straw   draw    size    at      or      and     not     sides   near    lords   season  ";
        private static final int WORD_LENGTH = 8;
        private static final int WORD_COUNT = 14;
        private static final int LORD = 0;
        private static final int FLIP = 1;
        private static final int GROWS = 2;
        private static final int STRAW = 3;
        private static final int DRAW = 4;
        private static final int SIZE = 5;
        private static final int AT = 6;
        private static final int OR = 7;
        private static final int AND = 8;
        private static final int NOT = 9;
        private static final int SIDES = 10;
        private static final int NEAR = 11;
        private static final int LORDS = 12;
        private static final int SEASON = 13;

        private static final int NOTHING = 0;
        private static final int WORD = 1;
        private static final int NUMBER = 2;
        private static final int SIGN = 3;
        private static final int NUMBER_LENGTH = 4;
        private static final String SIGNS = ";()<>=+-*/%";

        private static final int LEVEL_E = 0;
        private static final int LEVEL_BOTH = 1;
        private static final int LEVEL_ONE = 2;
        private static final int LEVEL_SUM = 3;
        private static final int LEVEL_TERM = 4;
        private static final int LEVEL_UNIT = 5;

        int foundFault = 0;
        int foundPlace = NONE;
        int length = 0;
        // What is told goes in here first, so that a FAULT leaves the SHIRE as it was.
        Telling into = new Telling();
        private final byte[] text = new byte[TAPE_BYTES];
        private int at = 0;
        private int kind = NOTHING;
        private int start = 0;
        private int number = 0;
        private int sign = 0;
        private int ownWord = NONE;
        private long name = 0;

        void putBytes(int number) {
            for (int shift = 24; shift >= 0; shift -= 8) {
                if (length < text.length) {
                    text[length] = (byte) (number >> shift);
                    length++;
                }
            }
        }

        void read() {
            into.empty();
            foundFault = 0;
            foundPlace = NONE;
            at = 0;
            advance();
            for (int i = 0; i <= TAPE_BYTES && foundFault == 0 && start < length; i++) {
                if (isWord(LORD)) {
                    readLord();
                } else if (isWord(FLIP)) {
                    readFlip();
                } else if (isWord(GROWS)) {
                    readGrows();
                } else if (isWord(STRAW)) {
                    readStraw();
                } else if (isWord(DRAW)) {
                    readDraw();
                } else {
                    blame(CANT_STAND);
                }
            }
        }

        /** The first FAULT stays; behind it no TOKEN fits anywhere, so all reading runs out. */
        private void blame(int fault) {
            if (foundFault == 0) {
                foundFault = fault;
                foundPlace = start;
            }
            kind = NOTHING;
        }

        private void advance() {
            if (foundFault != 0) {
                return;
            }
            for (int i = 0; i < TAPE_BYTES && at < length && (text[at] == 32 || text[at] == 10); i++) {
                at++;
            }
            start = at;
            kind = NOTHING;
            if (at >= length) {
                return;
            }
            if (isLetter(at)) {
                scanWord();
            } else if (isDigit(at)) {
                scanNumber();
            } else if (SIGNS.indexOf((char) (text[at] & 255)) >= 0) {
                kind = SIGN;
                sign = text[at];
                at++;
            } else {
                blame(NO_TOKEN);
            }
        }

        private boolean isLetter(int place) {
            return place < length && text[place] >= 'a' && text[place] <= 'z';
        }

        private boolean isDigit(int place) {
            return place < length && text[place] >= '0' && text[place] <= '9';
        }

        private void scanWord() {
            name = 0;
            for (int i = 0; i < TAPE_BYTES && isLetter(at); i++) {
                name = name * 32 + (text[at] - 'a' + 1);
                at++;
            }
            if (at - start > WORD_LENGTH) {
                blame(NO_TOKEN);
                return;
            }
            kind = WORD;
            ownWord = NONE;
            for (int word = 0; word < WORD_COUNT; word++) {
                if (isSpelled(word)) {
                    ownWord = word;
                }
            }
        }

        private boolean isSpelled(int word) {
            for (int i = 0; i < WORD_LENGTH; i++) {
                int letter = start + i < at ? text[start + i] : ' ';
                if (letter != WORDS.charAt(word * WORD_LENGTH + i)) {
                    return false;
                }
            }
            return true;
        }

        private void scanNumber() {
            number = 0;
            for (int i = 0; i < TAPE_BYTES && isDigit(at); i++) {
                number = number * 10 + (text[at] - '0');
                at++;
            }
            if (at - start > NUMBER_LENGTH || isLetter(at)) {
                blame(NO_TOKEN);
                return;
            }
            kind = NUMBER;
        }

        private boolean isWord(int word) {
            return kind == WORD && ownWord == word;
        }

        private boolean isSign(char wanted) {
            return kind == SIGN && sign == wanted;
        }

        private void takeWord(int word) {
            if (isWord(word)) {
                advance();
            } else {
                blame(CANT_STAND);
            }
        }

        private void takeSign(char wanted) {
            if (isSign(wanted)) {
                advance();
            } else {
                blame(CANT_STAND);
            }
        }

        private int takeNumber(int most) {
            if (kind != NUMBER) {
                blame(CANT_STAND);
                return 0;
            }
            if (number > most) {
                blame(NUMBER_CANT_BE);
                return 0;
            }
            int taken = number;
            advance();
            return taken;
        }

        /** The LORD whose NAME stands here (it is not gone beyond); NONE, with a FAULT, if there is none. */
        private int lordHere() {
            if (kind != WORD || ownWord != NONE) {
                blame(CANT_STAND);
                return NONE;
            }
            int lord = into.lordNamed(name);
            if (lord == NONE) {
                blame(NO_LORD_HAS_IT);
            }
            return lord;
        }

        private void readLord() {
            if (into.froth.lords >= MOST_LORDS) {
                blame(CANT_STAND);
                return;
            }
            advance();
            long newName = name;
            if (kind != WORD || ownWord != NONE) {
                blame(CANT_STAND);
            } else if (into.lordNamed(newName) != NONE) {
                blame(CANT_BE_THERE);
            }
            advance();
            takeWord(SIZE);
            int size = takeNumber(MOST_SIZE);
            int atCorner = into.froth.lords < FIRST_LORDS ? 0 : readCorner();
            takeSign(';');
            if (foundFault == 0) {
                into.addLord(newName, size, atCorner);
            }
        }

        /** As bits: the LORDS of the CORNER that is told. */
        private int readCorner() {
            takeWord(AT);
            int bits = 0;
            for (int i = 0; i < 3; i++) {
                int lord = lordHere();
                if (lord == NONE) {
                    return 0;
                }
                bits |= 1 << lord;
                if (i == 2 && !into.froth.hasCorner(bits)) {
                    blame(CANT_BE_THERE);
                }
                advance();
            }
            return bits;
        }

        private void readFlip() {
            if (into.flips >= MOST_FLIPS) {
                blame(CANT_STAND);
                return;
            }
            into.flips++;
            advance();
            int lord = lordHere();
            advance();
            int other = lordHere();
            if (foundFault == 0 && into.froth.turnWall(lord, other) == 0) {
                blame(CANT_BE_THERE);
            }
            advance();
            takeSign(';');
        }

        private void readStraw() {
            if (into.strawTold) {
                blame(CANT_STAND);
                return;
            }
            into.strawTold = true;
            advance();
            into.straw = takeNumber(MOST_STRAW);
            takeSign(';');
        }

        private void readDraw() {
            if (into.drawTold) {
                blame(CANT_STAND);
                return;
            }
            into.drawTold = true;
            advance();
            into.froth.seed = takeNumber(MOST_DRAW);
            takeSign(';');
        }

        private void readGrows() {
            if (into.growsTold) {
                blame(CANT_STAND);
                return;
            }
            into.growsTold = true;
            advance();
            readPart(LEVEL_E, 0);
            takeSign(';');
        }

        /** Reads an e, both, one, sum, term or unit, within so many others. */
        private void readPart(int level, int depth) {
            if (foundFault != 0 || depth > MOST_NESTING) {
                return;
            }
            if (level == LEVEL_UNIT) {
                readUnit(depth);
                return;
            }
            if (level == LEVEL_ONE && isWord(NOT)) {
                if (mayNest(depth)) {
                    advance();
                    readPart(LEVEL_ONE, depth + 1);
                    into.grows.put(Formula.NOT);
                }
                return;
            }
            readPart(level + 1, depth);
            int most = level == LEVEL_ONE ? 1 : MOST_UNITS;
            for (int i = 0; i < most; i++) {
                int op = opHere(level);
                if (op == 0) {
                    return;
                }
                advance();
                readPart(level + 1, depth);
                into.grows.put(op);
            }
        }

        private void readUnit(int depth) {
            if (into.grows.units >= MOST_UNITS) {
                blame(CANT_STAND);
                return;
            }
            into.grows.units++;
            if (isSign('(')) {
                if (!mayNest(depth)) {
                    return;
                }
                advance();
                readPart(LEVEL_E, depth + 1);
                if (!isSign(')')) {
                    blame(CANT_STAND);
                }
            } else {
                int op = kind == NUMBER ? number : givenHere();
                if (op == Formula.NOT) {
                    blame(CANT_STAND);
                }
                into.grows.put(op);
            }
            // A unit's last TOKEN stands here; behind a FAULT this does nothing.
            advance();
        }

        private boolean mayNest(int depth) {
            if (depth >= MOST_NESTING) {
                blame(CANT_STAND);
                return false;
            }
            return true;
        }

        /** The OP of the word for something given that stands here; NOT, which is none such, if none does. */
        private int givenHere() {
            switch (kind == WORD ? ownWord : NONE) {
                case SIDES:
                    return Formula.SIDES;
                case SIZE:
                    return Formula.SIZE;
                case NEAR:
                    return Formula.NEAR;
                case LORDS:
                    return Formula.LORDS;
                case SEASON:
                    return Formula.SEASON;
                default:
                    return Formula.NOT;
            }
        }

        /** The OP that joins parts on this level, if one stands here; else 0. */
        private int opHere(int level) {
            if (kind == WORD) {
                if (level == LEVEL_E && ownWord == OR) {
                    return Formula.OR;
                }
                return level == LEVEL_BOTH && ownWord == AND ? Formula.AND : 0;
            }
            switch (kind == SIGN ? sign : 0) {
                case '<':
                    return level == LEVEL_ONE ? Formula.LESS : 0;
                case '>':
                    return level == LEVEL_ONE ? Formula.MORE : 0;
                case '=':
                    return level == LEVEL_ONE ? Formula.SAME : 0;
                case '+':
                    return level == LEVEL_SUM ? Formula.PLUS : 0;
                case '-':
                    return level == LEVEL_SUM ? Formula.MINUS : 0;
                case '*':
                    return level == LEVEL_TERM ? Formula.TIMES : 0;
                case '/':
                    return level == LEVEL_TERM ? Formula.OVER : 0;
                case '%':
                    return level == LEVEL_TERM ? Formula.REST : 0;
                default:
                    return 0;
            }
        }
    }

    /** What is now, with what it was and is to be again, as rows in a circle: 40 ACTS lie between 41 rows. */
    private static final class History {
        private static final int ROWS = MOST_ACTS + 1;

        int undoable = 0;
        int redoable = 0;
        private final int[] rows = new int[ROWS * Froth.ROW];
        private int at = 0;

        void startFrom(Froth froth) {
            undoable = 0;
            redoable = 0;
            at = 0;
            froth.writeTo(rows, 0);
        }

        /** To be called behind each ACT. */
        void keep(Froth froth) {
            at = (at + 1) % ROWS;
            froth.writeTo(rows, at * Froth.ROW);
            undoable = Math.min(MOST_ACTS, undoable + 1);
            redoable = 0;
        }

        boolean stepBack(Froth froth) {
            if (undoable == 0) {
                return false;
            }
            at = (at + ROWS - 1) % ROWS;
            froth.readFrom(rows, at * Froth.ROW);
            undoable--;
            redoable++;
            return true;
        }

        boolean stepOn(Froth froth) {
            if (redoable == 0) {
                return false;
            }
            at = (at + 1) % ROWS;
            froth.readFrom(rows, at * Froth.ROW);
            undoable++;
            redoable--;
            return true;
        }
    }

    /** Questions about who BORDERS whom; eight LORDS are few enough to try all sets of them. */
    private static final class Puzzles {
        private static final int SETS = 1 << MOST_LORDS;

        final int[] answer = new int[MOST_LORDS];
        private final int[] trying = new int[MOST_LORDS];
        private int mostWalls = 0;

        /** NONE if no way leads there. */
        static int distance(Froth froth, int from, int to) {
            int reached = 1 << from;
            for (int steps = 0; steps < MOST_LORDS; steps++) {
                if ((reached >> to & 1) == 1) {
                    return steps;
                }
                reached |= neighboursOf(froth, reached);
            }
            return NONE;
        }

        private static int neighboursOf(Froth froth, int set) {
            int bits = 0;
            for (int lord = 0; lord < froth.lords; lord++) {
                if ((set >> lord & 1) == 1) {
                    bits |= froth.around[lord];
                }
            }
            return bits;
        }

        static int mostApart(Froth froth) {
            int best = 0;
            for (int set = 1; set < SETS; set++) {
                boolean apart = (set & ~froth.thereBits) == 0 && (neighboursOf(froth, set) & set) == 0;
                if (apart && Integer.bitCount(set) > Integer.bitCount(best)) {
                    best = set;
                }
            }
            return best;
        }

        static int fewestBetween(Froth froth, int lord, int other) {
            int others = froth.thereBits & ~(1 << lord | 1 << other);
            int best = others;
            for (int set = 0; set < SETS; set++) {
                if ((set & ~others) == 0 && Integer.bitCount(set) < Integer.bitCount(best)
                        && !isReached(froth, lord, other, set)) {
                    best = set;
                }
            }
            return best;
        }

        private static boolean isReached(Froth froth, int lord, int other, int without) {
            int reached = 1 << lord;
            for (int steps = 0; steps < MOST_LORDS; steps++) {
                reached |= neighboursOf(froth, reached) & ~without;
            }
            return (reached >> other & 1) == 1;
        }

        int fewestColours(Froth froth) {
            for (int lord = 0; lord < MOST_LORDS; lord++) {
                answer[lord] = NONE;
            }
            for (int colours = 0; colours < MOST_LORDS; colours++) {
                if (colourFrom(froth, 0, colours)) {
                    return colours;
                }
            }
            return MOST_LORDS;
        }

        /** Trying the least colour of each LORD first finds the first answer in order. */
        private boolean colourFrom(Froth froth, int lord, int colours) {
            if (lord >= froth.lords || lord >= MOST_LORDS) {
                return true;
            }
            if (!froth.isThere(lord)) {
                return colourFrom(froth, lord + 1, colours);
            }
            for (int colour = 0; colour < colours; colour++) {
                if (isFree(froth, lord, colour)) {
                    answer[lord] = colour;
                    if (colourFrom(froth, lord + 1, colours)) {
                        return true;
                    }
                }
            }
            answer[lord] = NONE;
            return false;
        }

        private boolean isFree(Froth froth, int lord, int colour) {
            for (int other = 0; other < lord; other++) {
                if (froth.meets(lord, other) && answer[other] == colour) {
                    return false;
                }
            }
            return true;
        }

        int mostPairs(Froth froth) {
            for (int lord = 0; lord < MOST_LORDS; lord++) {
                trying[lord] = NONE;
            }
            mostWalls = NONE;
            pairFrom(froth, 0, 0);
            return mostWalls;
        }

        /** Goes through all answers in their order, so only a better one takes the place of another. */
        private void pairFrom(Froth froth, int lord, int walls) {
            if (lord >= froth.lords || lord >= MOST_LORDS) {
                if (walls > mostWalls) {
                    mostWalls = walls;
                    for (int i = 0; i < MOST_LORDS; i++) {
                        answer[i] = trying[i];
                    }
                }
                return;
            }
            if (trying[lord] != NONE) {
                pairFrom(froth, lord + 1, walls);
                return;
            }
            for (int other = lord + 1; other < froth.lords; other++) {
                if (trying[other] == NONE && froth.meets(lord, other)) {
                    trying[lord] = other;
                    trying[other] = lord;
                    pairFrom(froth, lord + 1, walls + 1);
                    trying[lord] = NONE;
                    trying[other] = NONE;
                }
            }
            pairFrom(froth, lord + 1, walls);
        }

        int neighboursInOrder(Froth froth, int lord) {
            int left = froth.around[lord];
            int next = lowest(left);
            int count = 0;
            for (int i = 0; i < MOST_LORDS && next != NONE; i++) {
                answer[count] = next;
                count++;
                left &= ~(1 << next);
                next = lowest(left & sharingCorner(froth, 1 << lord | 1 << next));
            }
            return count;
        }

        /** Two who BORDER both need not lie next to one another about him; CORNERS tell that. */
        private static int sharingCorner(Froth froth, int pair) {
            int bits = 0;
            for (int i = 0; i < froth.corners; i++) {
                if ((froth.cornerBits[i] & pair) == pair) {
                    bits |= froth.cornerBits[i];
                }
            }
            return bits & ~pair;
        }
    }

    /** Two LORDS who prick a WALL each. A choice is 0 (none), or the number of whom he takes in, and 1 more. */
    private static final class Duel {
        private static final int CHOICES = MOST_LORDS + 1;

        int firstTakes = NONE;
        int otherTakes = NONE;
        private final int[] firstGets = new int[CHOICES * CHOICES];
        private final int[] otherGets = new int[CHOICES * CHOICES];
        private int firstMay = 0;
        private int otherMay = 0;

        int countRests(Froth now, Froth spare, int first, int other) {
            firstMay = choicesOf(now, first, other);
            otherMay = choicesOf(now, other, first);
            for (int x = 0; x < CHOICES; x++) {
                for (int y = 0; y < CHOICES; y++) {
                    if (mayBe(x, y)) {
                        spare.copyFrom(now);
                        spare.merge(first, x - 1);
                        spare.merge(other, y - 1);
                        firstGets[x * CHOICES + y] = spare.sideCount[first];
                        otherGets[x * CHOICES + y] = spare.sideCount[other];
                    }
                }
            }
            int rests = 0;
            for (int x = 0; x < CHOICES; x++) {
                for (int y = 0; y < CHOICES; y++) {
                    if (mayBe(x, y) && isRest(x, y)) {
                        if (rests == 0) {
                            firstTakes = x - 1;
                            otherTakes = y - 1;
                        }
                        rests++;
                    }
                }
            }
            return rests;
        }

        private static int choicesOf(Froth now, int lord, int rival) {
            int bits = 1;
            for (int taken = 0; taken < now.lords; taken++) {
                if (taken != rival && now.canMerge(lord, taken)) {
                    bits |= 1 << (taken + 1);
                }
            }
            return bits;
        }

        private boolean mayBe(int x, int y) {
            return (firstMay >> x & 1) == 1 && (otherMay >> y & 1) == 1;
        }

        private boolean isRest(int x, int y) {
            for (int choice = 0; choice < CHOICES; choice++) {
                if (mayBe(choice, y) && firstGets[choice * CHOICES + y] > firstGets[x * CHOICES + y]) {
                    return false;
                }
                if (mayBe(x, choice) && otherGets[x * CHOICES + choice] > otherGets[x * CHOICES + y]) {
                    return false;
                }
            }
            return true;
        }
    }

    /** What is SEEN of the last LORD's SIDES, and which SIZES of his at first it leaves. */
    private static final class Memory {
        private static final int NEVER = NONE;

        int count = 0;
        private final int[] seasonsOf = new int[MOST_SEEN];
        private final int[] sidesOf = new int[MOST_SEEN];
        private final boolean[] isOf = new boolean[MOST_SEEN];
        private final int[] toldAt = new int[MOST_SEEN];
        private final int[] untoldAt = new int[MOST_SEEN];
        // The shire as it was told stays till the next shire, so this is found once for each.
        private final int[] sidesBehind = new int[SEEN_SIZES * SEEN_SEASONS];
        private boolean found = false;
        private final boolean[] isFit = new boolean[SEEN_SIZES];
        private final int[] tally = new int[SEEN_SIDES];

        void forget() {
            count = 0;
            found = false;
        }

        int tell(int seasons, int sides, boolean is, int time) {
            if (count >= MOST_SEEN) {
                return NONE;
            }
            seasonsOf[count] = seasons;
            sidesOf[count] = sides;
            isOf[count] = is;
            toldAt[count] = time;
            untoldAt[count] = NEVER;
            count++;
            return count - 1;
        }

        boolean takeBack(int seen, int time) {
            if (seen < 0 || seen >= count || untoldAt[seen] != NEVER) {
                return false;
            }
            untoldAt[seen] = time;
            return true;
        }

        /** Finds which SIZES fit, as known at k: how many. */
        int findFits(int k, Telling told, Froth spare) {
            if (told.froth.lords == 0) {
                return 0;
            }
            findSides(told, spare);
            int fitting = 0;
            for (int size = 0; size < SEEN_SIZES; size++) {
                isFit[size] = agreesWithAll(size, k);
                if (isFit[size]) {
                    fitting++;
                }
            }
            return fitting;
        }

        private void findSides(Telling told, Froth spare) {
            int last = told.froth.lords - 1;
            if (found || last < 0) {
                return;
            }
            for (int size = 0; size < SEEN_SIZES; size++) {
                spare.copyFrom(told.froth);
                spare.size[last] = size;
                for (int seasons = 0; seasons < SEEN_SEASONS; seasons++) {
                    sidesBehind[size * SEEN_SEASONS + seasons] = spare.sideCount[last];
                    spare.passSeason(told.grows, 0);
                }
            }
            found = true;
        }

        private boolean agreesWithAll(int size, int k) {
            for (int i = 0; i < count; i++) {
                boolean counts = toldAt[i] <= k && (untoldAt[i] == NEVER || untoldAt[i] > k);
                boolean had = sidesBehind[size * SEEN_SEASONS + seasonsOf[i]] >= sidesOf[i];
                if (counts && had != isOf[i]) {
                    return false;
                }
            }
            return true;
        }

        int leastFit() {
            for (int size = 0; size < SEEN_SIZES; size++) {
                if (isFit[size]) {
                    return size;
                }
            }
            return NONE;
        }

        int greatestFit() {
            for (int size = SEEN_SIZES - 1; size >= 0; size--) {
                if (isFit[size]) {
                    return size;
                }
            }
            return NONE;
        }

        /** The most SIZES that fit yet when it is known how many SIDES he had behind so many SEASONS. */
        int mostLeftBehind(int seasons) {
            for (int sides = 0; sides < SEEN_SIDES; sides++) {
                tally[sides] = 0;
            }
            int most = 0;
            for (int size = 0; size < SEEN_SIZES; size++) {
                int sides = sidesBehind[size * SEEN_SEASONS + seasons];
                if (isFit[size] && sides < SEEN_SIDES) {
                    tally[sides]++;
                    most = Math.max(most, tally[sides]);
                }
            }
            return most;
        }
    }
}
